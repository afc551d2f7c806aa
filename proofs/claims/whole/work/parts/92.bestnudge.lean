/-! TRIALS: the best nudge -/
def nEs (i : Nat) : Int32 := if i % 2 = 0 then -(nI (100 * (i / 2 + 1))) else nI (100 * (i / 2 + 1))
def nY (q : Nat) (x : Nat → Int32) (c : Int32) : Nat → Int32 := zu x (21 + q) (mI ((x (21 + q)).toInt + c.toInt) (1000 * (x 0).toInt))
def bnud (n q : Nat) (r : Nat → Int32) : Nat → Nat → (Nat → Int32) → Int32 → Int32 → Int32
  | 0, _, _, b, _ => b
  | d + 1, i, x, b, w => bnud n q r d (i + 1) (xR r (rN n (nY q x (nEs i)))) (if tM n (nY q x (nEs i)) < w then nEs i else b) (if tM n (nY q x (nEs i)) < w then tM n (nY q x (nEs i)) else w)
theorem nd_b : ∀ i, i < 10 → -500 ≤ (nEs i).toInt ∧ (nEs i).toInt ≤ 500 := by decide
theorem nd_0 : ∀ k, k < 5 → ¬ (500 : Int32) < nI (100 * (k + 1)) ∧ -(nI (100 * (k + 1))) = nEs (2 * k) ∧ nEs (2 * k) + 2 * nI (100 * (k + 1)) = nEs (2 * k + 1) ∧ nI (100 * (k + 1)) < nEs (2 * k + 1) + 2 * nI (100 * (k + 1)) ∧ ¬ nI (100 * (k + 1)) < nEs (2 * k) ∧ ¬ nI (100 * (k + 1)) < nEs (2 * k + 1) ∧ nI (100 * (k + 1)) + 100 = nI (100 * (k + 1 + 1)) ∧ -1 * nI (100 * (k + 1)) = nEs (2 * k) ∧ 1 * nI (100 * (k + 1)) = nEs (2 * k + 1) := by decide
theorem nY_row {r x : Nat → Int32} {N q : Nat} (h : zEv r N) (hq : q = 0 ∨ q = 1) {c : Int32} (hc : -500 ≤ c.toInt ∧ c.toInt ≤ 500) (cg : zcg r x) : nY q x c = zu x (21 + q) (mI ((r (21 + q)).toInt + c.toInt) (1000 * (r 0).toInt)) ∧ zEv (nY q x c) N ∧ zkp r (nY q x c) ∧ nY q x c 5 = r 5 := by
  have e : nY q x c = zu x (21 + q) (mI ((r (21 + q)).toInt + c.toInt) (1000 * (r 0).toInt)) := by
    unfold nY
    rw [cg (21 + q) (by omega), cg 0 (by omega)]
  have hN := h.1.N
  have hp := h.1.ph2 (q := q) (by omega)
  have hb : 0 ≤ (mI ((r (21 + q)).toInt + c.toInt) (1000 * (r 0).toInt)).toInt ∧ (mI ((r (21 + q)).toInt + c.toInt) (1000 * (r 0).toInt)).toInt < 1000 * (r 0).toInt := ⟨mI_lo (by omega) (by omega), mI_hi (by omega) (by omega)⟩
  have hW : zW (zu x (21 + q) (mI ((r (21 + q)).toInt + c.toInt) (1000 * (r 0).toInt))) := by
    rcases hq with rfl | rfl
    · exact zW_u21 (zW_cg h.1 cg) (by rw [cg 0 (by omega)]; exact hb)
    · exact zW_u22 (zW_cg h.1 cg) (by rw [cg 0 (by omega)]; exact hb)
  obtain ⟨h1, h2, h3⟩ := zEv_set (zEv_cg h cg) (k := 21 + q) (v := mI ((r (21 + q)).toInt + c.toInt) (1000 * (r 0).toInt)) (by omega) hW
  rw [e]
  exact ⟨rfl, h1, (zkp_cg cg).tr h2, h3.trans (cg 5 (by omega))⟩
theorem nY_0 {x : Nat → Int32} (h : zW x) {q : Nat} (hq : q ≤ 1) : nY q x 0 = x := by
  have hN := h.N
  have hp := h.ph2 hq
  unfold nY
  refine zu_idm ?_
  have z0 : (0 : Int32).toInt = 0 := rfl
  rw [neq, mIt (by omega) (by omega), z0, Int.add_zero, Int.emod_eq_of_lt hp.1 hp.2]
section ZBN
variable {S : zSp} {σ σ1 : zS} {N p p' s m : Nat} {h : Nat → Nat → Int32}
theorem C_nd (W : zWp S σ N p p' s m h) (hN : N ≤ 512) {n : Nat} (hn : n ≤ 2000) {v : Int32} {q : Nat} (hv : v = 0 ∧ q = 0 ∨ v = 1 ∧ q = 1) {Q : Int32 → zS → Prop} {X : String → zS → Prop} {kb : Nat → Int32 → Int32 → Int32 → Int32 → Int32 → zS → Prop} {dd c : Int32} (hdc : ¬ dd < c) (hc : -500 ≤ c.toInt ∧ c.toInt ≤ 500) {x : Nat → Int32} {b w : Int32} {σ2 : zS} {n' : Nat} (T : zTl σ σ2) (cg : zcg (gi σ 456) x) (hq : ∀ σ', zTl σ σ' → ∀ x1 : Int32, x1 = c + 2 * dd → wxX11_bestNudge_49 (zSl S) Q X kb n' 0 v (nI n) (if tM n (nY q x c) < w then c else b) (if tM n (nY q x c) < w then tM n (nY q x c) else w) dd x1 σ') : wxX11_bestNudge_49 (zSl S) Q X kb (n' + 1) 0 v (nI n) b w dd c σ2 := by
  have T5 := W.2.2.2.1.2.2
  have hNb := W.w.N
  have g4 : gr σ2 0 4 = some 277 := by rw [T.1 0 4 (by omega)]; exact W.1.1.2.2.2.2.1
  have g3 : gr σ2 0 3 = some 261 := by rw [T.1 0 3 (by omega)]; exact W.g3
  have tk : (1000 : Int32).toInt = 1000 := rfl
  have eN : (1000 * gi σ 456 0).toInt = 1000 * (gi σ 456 0).toInt := by rw [nmul (by rw [tk]; omega) (by rw [tk]; omega), tk]
  have fin : ∀ σ', zTl σ σ' → ((w ≤ tM n (nY q x c) → wxX11_bestNudge_108 (zSl S) Q X kb (wxX11_bestNudge_49 (zSl S) Q X kb n') 0 v (nI n) b w dd c σ') ∧ (¬ w ≤ tM n (nY q x c) → wxX11_bestNudge_108 (zSl S) Q X kb (wxX11_bestNudge_49 (zSl S) Q X kb n') 0 v (nI n) c (tM n (nY q x c)) dd c σ')) := by
    intro σ' T'
    refine ⟨fun hl x1 e1 => ?_, fun hl x1 e1 => ?_⟩
    · have hf := hq σ' T' x1 e1
      rw [if_neg (fun o => absurd hl (nge.mpr o)), if_neg (fun o => absurd hl (nge.mpr o))] at hf
      exact hf
    · have hf := hq σ' T' x1 e1
      rw [if_pos (nge.mp hl), if_pos (nge.mp hl)] at hf
      exact hf
  rw [wxX11_bestNudge_49]
  refine ⟨fun h => absurd h hdc, fun _ => ⟨277, g4, 261, g3, T_copy W T (fun σ' k t gp => ⟨277, by rw [t.1 0 4 (by omega)]; exact W.1.1.2.2.2.2.1, ?_⟩)⟩⟩
  have S1 := (t.st W).2.2.2.2.1 277 (Or.inr (Or.inl rfl))
  have g6 : gr σ' 0 6 = some p := by rw [t.1 0 6 (by omega)]; exact W.gp
  have pn : gi σ' p 0 = gi σ 456 0 := by rw [(t.2.2.1 p (by have := W.pb; omega)).1]; exact W.pl.1.1
  have hph := W.w.ph2 (q := q) (by omega)
  obtain ⟨y0, y1, y2, y3⟩ := nY_row W.ev (q := q) (by omega) hc cg
  rcases hv with ⟨hv, rfl⟩ | ⟨hv, rfl⟩
  · refine ⟨fun h => by rw [hv] at h; exact absurd h (by decide), fun _ => ⟨278, S1.1.1, p, g6, ?_⟩⟩
    have hph' : 0 ≤ (gi σ 456 21).toInt ∧ (gi σ 456 21).toInt < 1000 * (gi σ 456 0).toInt := hph
    have e2 : gi σ' 278 0 = gi σ 456 21 := k.2.1.1.1
    unfold wX6_circle wX4_turn
    rw [pn]
    intro x1 e1
    rw [e2] at e1
    subst e1
    refine wmodulo (by omega) (fun σ4 e4 => ?_)
    rw [nadd (by omega) (by omega), eN] at e4
    subst e4
    obtain ⟨k1, k2⟩ := KM_si (σ := σ') (b := 277) (k := 1) (j := 0) (v := mI ((gi σ 456 21).toInt + c.toInt) (1000 * (gi σ 456 0).toInt)) (by decide) (RRs_21 (KM_cg k W.w cg) _)
    have ey : nY 0 x c = zu x 21 (mI ((gi σ 456 21).toInt + c.toInt) (1000 * (gi σ 456 0).toInt)) := y0
    rw [← ey] at k1
    exact T_mis W hN (t.go k2 k1) gp k1 y1 y2 hn (by rw [y3]; exact T5) fin
  · refine ⟨fun _ => ⟨281, S1.1.2.1, p, g6, ?_⟩, fun h => absurd hv h⟩
    have hph' : 0 ≤ (gi σ 456 22).toInt ∧ (gi σ 456 22).toInt < 1000 * (gi σ 456 0).toInt := hph
    have e2 : gi σ' 281 0 = gi σ 456 22 := k.2.1.2.1
    unfold wX6_circle wX4_turn
    rw [pn]
    intro x1 e1
    rw [e2] at e1
    subst e1
    refine wmodulo (by omega) (fun σ4 e4 => ?_)
    rw [nadd (by omega) (by omega), eN] at e4
    subst e4
    obtain ⟨k1, k2⟩ := KM_si (σ := σ') (b := 277) (k := 4) (j := 0) (v := mI ((gi σ 456 22).toInt + c.toInt) (1000 * (gi σ 456 0).toInt)) (by decide) (RRs_22 (KM_cg k W.w cg) _)
    have ey : nY 1 x c = zu x 22 (mI ((gi σ 456 22).toInt + c.toInt) (1000 * (gi σ 456 0).toInt)) := y0
    rw [← ey] at k1
    exact T_mis W hN (t.go k2 k1) gp k1 y1 y2 hn (by rw [y3]; exact T5) fin
theorem C_36 (W : zWp S σ N p p' s m h) (hN : N ≤ 512) {n : Nat} (hn : n ≤ 2000) {v : Int32} {q : Nat} (hv : v = 0 ∧ q = 0 ∨ v = 1 ∧ q = 1) {Q : Int32 → zS → Prop} {X : String → zS → Prop} : ∀ (j k : Nat) (x : Nat → Int32) (b w : Int32) (σ1 : zS), k + j = 5 → zTl σ σ1 → zcg (gi σ 456) x → (∀ σ', zTl σ σ' → Q (bnud n q (gi σ 456) (2 * j) (2 * k) x b w) σ') → wxX11_bestNudge_36 (zSl S) Q X (j + 1) 0 v (nI n) b w (nI (100 * (k + 1))) σ1
  | 0, k, x, b, w, σ1, hk, T, c, hq => by
    have e : k = 5 := by omega
    subst e
    rw [wxX11_bestNudge_36]
    exact ⟨fun _ => hq σ1 T, fun h => absurd (by decide) h⟩
  | j + 1, k, x, b, w, σ1, hk, T, c, hq => by
    obtain ⟨n0, n1, n2, n3, n4, n5, n6, n7, n8⟩ := nd_0 k (by omega)
    rw [wxX11_bestNudge_36]
    refine ⟨fun h => absurd h n0, fun _ x1 e1 => ⟨3, ?_⟩⟩
    rw [n1] at e1
    subst e1
    refine C_nd W hN hn hv n4 (nd_b _ (by omega)) T c (fun σ2 T2 x2 e2 => ?_)
    rw [n2] at e2
    subst e2
    refine C_nd W hN hn hv n5 (nd_b _ (by omega)) T2 (xR_cg _ (rN n (nY q x (nEs (2 * k))))) (fun σ3 T3 x3 e3 => ?_)
    subst e3
    rw [wxX11_bestNudge_49]
    refine ⟨fun _ x4 e4 => ?_, fun h => absurd n3 h⟩
    rw [n6] at e4
    subst e4
    exact C_36 W hN hn hv j (k + 1) (xR (gi σ 456) (rN n (nY q (xR (gi σ 456) (rN n (nY q x (nEs (2 * k))))) (nEs (2 * k + 1))))) _ _ σ3 (by omega) T3 (xR_cg _ _) hq
end ZBN
theorem M_nd {ln : Nat → Nat} {r : Nat → Int32} {N : Nat} (E : zEv r N) (h5 : (r 5).toInt ≤ 100000) (hN : N ≤ 512) {n : Nat} (hn : n ≤ 2000) {v : Int32} {q : Nat} (hv : v = 0 ∧ q = 0 ∨ v = 1 ∧ q = 1) {σ1 : zS} (G1 : zMg (gr σ1) ln) {Q : Int32 → zS → Prop} {kb : Nat → Int32 → Int32 → Int32 → Int32 → Int32 → zS → Prop} {v5 v6 c : Int32} (h1 : ¬ (1 : Int32) < v6) (ec : v6 * v5 = c) (hc : -500 ≤ c.toInt ∧ c.toInt ≤ 500) {x : Nat → Int32} {b w : Int32} {σa : zS} {n' : Nat} (T : zMt σ1 σa r) (ex : gi σa 456 = x) (cg : zcg r x) (hq : ∀ σ', zMt σ1 σ' r → gi σ' 456 = xR r (rN n (nY q x c)) → ∀ x2 : Int32, x2 = v6 + 2 → wX12_bestNudge_66 ln Q kb n' 455 v (nI n) (if w = -1 ∨ tM n (nY q x c) < w then c else b) (if w = -1 ∨ tM n (nY q x c) < w then tM n (nY q x c) else w) v5 x2 σ') : wX12_bestNudge_66 ln Q kb (n' + 1) 455 v (nI n) b w v5 v6 σa := by
  have Ga : zMg (gr σa) ln := by rw [T.r]; exact G1
  have hNb := E.1.N
  have hph := E.1.ph2 (q := q) (by omega)
  obtain ⟨y0, y1, y2, y3⟩ := nY_row E (q := q) (by omega) hc cg
  rw [wX12_bestNudge_66]
  refine ⟨fun h => absurd h h1, fun _ => ⟨456, Ga.1.1, 456, Ga.1.1, fun x4 e4 => ?_⟩⟩
  subst e4
  refine ⟨by rw [Ga.2.1]; exact (oix hv 21 (by decide)).2, fun x6 e6 => ?_⟩
  rw [show ((21 : Int32) + v).toNatClampNeg = 21 + q from (oix hv 21 (by decide)).1, ex, ec, cg (21 + q) (by omega)] at e6
  have e64 : ((r (21 + q)).toInt64 + c.toInt64).toInt = (r (21 + q)).toInt + c.toInt := by
    rw [Int64.toInt_add, n64, n64]
    exact nbm64 (by omega) (by omega)
  subst e6
  have e0 : gi σa 456 0 = r 0 := by rw [ex]; exact cg 0 (by omega)
  refine M_within Ga (by rw [e0]; exact hNb) (by rw [e64]; omega) (fun x9 e9 => ?_)
  subst e9
  rw [e64, e0]
  refine ⟨by rw [Ga.2.1]; exact (oix hv 21 (by decide)).2, fun σ11 e11 => ?_⟩
  rw [show ((21 : Int32) + v).toNatClampNeg = 21 + q from (oix hv 21 (by decide)).1] at e11
  subst e11
  have e456 : gi (si σa 456 (21 + q) (mI ((r (21 + q)).toInt + c.toInt) (1000 * (r 0).toInt))) 456 = nY q x c := by rw [si_at, ex, y0]
  refine M_wrong (σ := si σa 456 (21 + q) (mI ((r (21 + q)).toInt + c.toInt) (1000 * (r 0).toInt))) Ga hN (by rw [e456]; exact y1) hn (by rw [e456, y3]; exact h5) (fun σb rb _ fb => ?_)
  rw [e456] at rb ⊢
  have Gb : zMg (gr σb) ln := by rw [fb.r]; exact Ga
  refine ⟨458, Gb.1.2.2.1, 456, Gb.1.1, M_back Gb ((T.go (zMf_i _ _ _)).go fb) (fun σc mc rc _ gc => ?_)⟩
  rw [rb] at rc
  refine ⟨fun hb => ?_, fun hb => ⟨fun hl => ?_, fun hl => ?_⟩⟩
  · intro x1 e1 x2 e2
    rw [ec] at e1
    subst e1
    have hf := hq σc mc rc x2 e2
    rw [if_pos (Or.inl hb), if_pos (Or.inl hb)] at hf
    exact hf
  · intro x1 e1 x2 e2
    rw [ec] at e1
    subst e1
    have hf := hq σc mc rc x2 e2
    rw [if_pos (Or.inr hl), if_pos (Or.inr hl)] at hf
    exact hf
  · intro x2 e2
    have hf := hq σc mc rc x2 e2
    rw [if_neg (fun o => o.elim hb hl), if_neg (fun o => o.elim hb hl)] at hf
    exact hf
theorem tM_nn {r : Nat → Int32} {N : Nat} (hN : N ≤ 512) (E : zEv r N) {n : Nat} (hn : n ≤ 2000) (h5 : (r 5).toInt ≤ 100000) : 0 ≤ (tM n r).toInt := by
  obtain ⟨e, he, ee⟩ := tM_b hN E (n := n) (by omega)
  rw [ee, nI_toInt (by omega)]
  omega
theorem M_55 {ln : Nat → Nat} {r : Nat → Int32} {N : Nat} (E : zEv r N) (h5 : (r 5).toInt ≤ 100000) (hN : N ≤ 512) {n : Nat} (hn : n ≤ 2000) {v : Int32} {q : Nat} (hv : v = 0 ∧ q = 0 ∨ v = 1 ∧ q = 1) {σ1 : zS} (G1 : zMg (gr σ1) ln) {Q : Int32 → zS → Prop} : ∀ (j k : Nat) (x : Nat → Int32) (b w : Int32) (σa : zS), k + j = 5 → 0 ≤ w.toInt → zMt σ1 σa r → gi σa 456 = x → zcg r x → (∀ σ', zMt σ1 σ' r → zcg r (gi σ' 456) → Q (bnud n q r (2 * j) (2 * k) x b w) σ') → wX12_bestNudge_55 ln Q (j + 1) 455 v (nI n) b w (nI (100 * (k + 1))) σa
  | 0, k, x, b, w, σa, hk, hw, T, ex, c, hq => by
    have e : k = 5 := by omega
    subst e
    rw [wX12_bestNudge_55]
    exact ⟨fun _ => hq σa T (by rw [ex]; exact c), fun h => absurd (by decide) h⟩
  | j + 1, k, x, b, w, σa, hk, hw, T, ex, c, hq => by
    obtain ⟨n0, n1, n2, n3, n4, n5, n6, n7, n8⟩ := nd_0 k (by omega)
    have hb0 := nd_b (2 * k) (by omega)
    have hb1 := nd_b (2 * k + 1) (by omega)
    have nw : ∀ {w : Int32}, 0 ≤ w.toInt → ¬ w = -1 := fun {w} h e => by rw [e] at h; exact absurd h (by decide)
    have ior : ∀ {w t c b : Int32}, 0 ≤ w.toInt → (if w = -1 ∨ t < w then c else b) = if t < w then c else b := fun {w t c b} h => by
      by_cases e : t < w
      · rw [if_pos (Or.inr e), if_pos e]
      · rw [if_neg (fun o => o.elim (nw h) e), if_neg e]
    obtain ⟨_, y1, _, y3⟩ := nY_row E (q := q) (by omega) hb0 c
    have hw2 : 0 ≤ (if tM n (nY q x (nEs (2 * k))) < w then tM n (nY q x (nEs (2 * k))) else w).toInt := by
      by_cases e : tM n (nY q x (nEs (2 * k))) < w
      · rw [if_pos e]
        exact tM_nn hN y1 hn (by rw [y3]; exact h5)
      · rw [if_neg e]
        exact hw
    obtain ⟨_, z1, _, z3⟩ := nY_row E (q := q) (by omega) hb1 (xR_cg r (rN n (nY q x (nEs (2 * k)))))
    rw [wX12_bestNudge_55]
    refine ⟨fun h => absurd h n0, fun _ => ⟨3, ?_⟩⟩
    refine M_nd E h5 hN hn hv G1 (by decide) n7 hb0 T ex c (fun σ2 T2 r2 x2 e2 => ?_)
    rw [show (-1 : Int32) + 2 = 1 by decide] at e2
    subst e2
    rw [ior hw, ior hw]
    refine M_nd E h5 hN hn hv G1 (by decide) n8 hb1 T2 r2 (xR_cg _ _) (fun σ3 T3 r3 x3 e3 => ?_)
    rw [show (1 : Int32) + 2 = 3 by decide] at e3
    subst e3
    rw [ior hw2, ior hw2]
    rw [wX12_bestNudge_66]
    refine ⟨fun _ x4 e4 => ?_, fun h => absurd (by decide) h⟩
    rw [n6] at e4
    subst e4
    have hw3 : 0 ≤ (if tM n (nY q (xR r (rN n (nY q x (nEs (2 * k))))) (nEs (2 * k + 1))) < (if tM n (nY q x (nEs (2 * k))) < w then tM n (nY q x (nEs (2 * k))) else w) then tM n (nY q (xR r (rN n (nY q x (nEs (2 * k))))) (nEs (2 * k + 1))) else (if tM n (nY q x (nEs (2 * k))) < w then tM n (nY q x (nEs (2 * k))) else w)).toInt := by
      by_cases e : tM n (nY q (xR r (rN n (nY q x (nEs (2 * k))))) (nEs (2 * k + 1))) < (if tM n (nY q x (nEs (2 * k))) < w then tM n (nY q x (nEs (2 * k))) else w)
      · rw [if_pos e]
        exact tM_nn hN z1 hn (by rw [z3]; exact h5)
      · rw [if_neg e]
        exact hw2
    exact M_55 E h5 hN hn hv G1 j (k + 1) (xR r (rN n (nY q (xR r (rN n (nY q x (nEs (2 * k))))) (nEs (2 * k + 1))))) _ _ σ3 (by omega) hw3 T3 r3 (xR_cg _ _) hq
theorem c_reqOffice {ln : Nat → Nat} {σ : zS} {v : Int32} {Q : zS → Prop} {X : String → zS → Prop} (h1 : v = 0 ∨ v = 1 → Q σ) (hx : ¬ (v = 0 ∨ v = 1) → X "java/lang/IndexOutOfBoundsException" σ) : wxX11_requireOffice ln σ v Q X := ⟨fun e => h1 (Or.inl e), fun e => ⟨fun e2 => h1 (Or.inr e2), fun e2 => hx (fun o => o.elim e e2)⟩⟩
theorem L_bestNudge {S : zSp} {σ : zS} {N : Nat} (W : zWd S σ N) (hN : N ≤ 512) {v w : Int32} {K : Int32 → Int32 → zS → Prop} (hK : zEnd S N K) : wL_bestNudge (zSl S) σ 0 v w 463 (fun r5 σ4 => wX12_bestNudge (zSl S) σ4 455 v w (fun r10 σ9 => K r5 r10 σ9)) := by
  obtain ⟨p, p', s, m, h, W⟩ := W
  have OUT : ∀ (σ0 : zS) (r : Int32), wX12_bestNudge (zSl S) (sl σ0 463 0 r.toInt64) 455 v w (fun r10 σ9 => K 0 r10 σ9) → ∀ x6 : Int64, x6 = r.toInt64 → vp_in (0 : Int32) (zSl S 463) ∧ ∀ σ8 : zS, σ8 = sl σ0 463 (0 : Int32).toNatClampNeg x6 → wX12_bestNudge (zSl S) σ8 455 v w (fun r10 σ9 => K 0 r10 σ9) := fun σ0 r hq => c_out (σ := σ0) W.l463 (Q := fun r5 σ4 => wX12_bestNudge (zSl S) σ4 455 v w (fun r10 σ9 => K r5 r10 σ9)) hq
  have u0 : (1 : Int64).toInt = 1 := rfl
  have u5 : (1000 : Int64).toInt = 1000 := rfl
  have T5 := W.2.2.2.1.2.2
  have g4 : gr σ 0 4 = some 277 := W.1.1.2.2.2.2.1
  have thr1 : ¬ (v = 0 ∨ v = 1) → wX12_bestNudge (zSl S) σ 455 v w (fun r10 σ9 => K 1 r10 σ9) := by
    intro hv σ1 e1
    subst e1
    exact n_isOffice (fun h => absurd h hv) (fun _ => ⟨fun _ => n_raise (W.thr hK (by decide)), fun h => absurd rfl h⟩)
  have thr2 : (v = 0 ∨ v = 1) → ¬ (1 ≤ w.toInt ∧ w.toInt ≤ 1000) → wX12_bestNudge (zSl S) σ 455 v w (fun r10 σ9 => K 2 r10 σ9) := by
    intro hv hw σ1 e1
    subst e1
    refine n_isOffice (fun _ => ⟨fun h => absurd h (by decide), fun _ x4 e4 => ?_⟩) (fun h => absurd hv h)
    subst e4
    refine n_isIn (fun hh => absurd ?_ hw) (fun _ => ⟨fun _ => n_raise (W.thr hK (by decide)), fun h => absurd rfl h⟩)
    rw [t64, u0, u5] at hh
    exact hh
  have mod : ∀ q : Nat, (v = 0 ∧ q = 0 ∨ v = 1 ∧ q = 1) → (1 ≤ w.toInt ∧ w.toInt ≤ 1000) → ∀ (res : Int32), res = bnud w.toNatClampNeg q (gi σ 456) 10 0 (xR (gi σ 456) (rN w.toNatClampNeg (xR (gi σ 456) (rN w.toNatClampNeg (gi σ 456))))) 0 (tM w.toNatClampNeg (gi σ 456)) → ∀ σ2, zTl σ σ2 → wX12_bestNudge (zSl S) (sl σ2 463 0 res.toInt64) 455 v w (fun r10 σ9 => K 0 r10 σ9) := by
    intro q hv hw res hres σ2 t2 σ3 e3
    subst e3
    have cw := ncl (a := w) (by omega)
    have ew : w = nI w.toNatClampNeg := by
      rw [neq, nI_toInt (by omega)]
      omega
    have hn : w.toNatClampNeg ≤ 2000 := by omega
    have G2 : zMg (gr (si (sl σ2 463 0 res.toInt64) 455 0 0)) (zSl S) := (t2.st W).2.2.2.2.2.2
    have e456 : gi (si (sl σ2 463 0 res.toInt64) 455 0 0) 456 = gi σ 456 := by rw [row_t]; exact (t2.2.2.1 456 (by omega)).1
    refine n_isOffice (fun _ => ⟨fun h => absurd h (by decide), fun _ x4 e4 => ?_⟩) (fun hn => absurd (hv.elim (fun x => Or.inl x.1) (fun x => Or.inr x.1)) hn)
    subst e4
    refine n_isIn (fun _ => ⟨fun h => absurd h (by decide), fun _ => ⟨456, G2.1.1, 458, G2.1.2.2.1, ?_⟩⟩) (fun hx => absurd (by rw [t64, u0, u5]; exact hw) hx)
    refine M_save G2 (fun σa ma ra => ⟨5 + 1 + 1, ?_⟩)
    rw [e456] at ma ra
    have y0 : nY q (gi σ 456) 0 = gi σ 456 := nY_0 W.w (by omega)
    have y1 : nY q (xR (gi σ 456) (rN w.toNatClampNeg (gi σ 456))) 0 = xR (gi σ 456) (rN w.toNatClampNeg (gi σ 456)) := nY_0 (zW_cg W.w (xR_cg _ _)) (by omega)
    have et := tM_cg hN W.ev (n := w.toNatClampNeg) (by omega) (xR_cg (gi σ 456) (rN w.toNatClampNeg (gi σ 456)))
    have t0 := tM_nn hN W.ev hn T5
    have hm : wX12_bestNudge_55 (zSl S) (fun r10 σ9 => K 0 r10 σ9) (5 + 1 + 1) 455 v (nI w.toNatClampNeg) 0 (-1) 0 σa := by
      rw [wX12_bestNudge_55]
      refine ⟨fun h => absurd h (by decide), fun _ => ⟨3, ?_⟩⟩
      refine M_nd W.ev T5 hN hn hv G2 (c := 0) (by decide) (by decide) (by decide) ma ra (fun _ _ => rfl) (fun σ4 T4 r4 x2 e2 => ?_)
      rw [show (-1 : Int32) + 2 = 1 by decide] at e2
      subst e2
      rw [if_pos (Or.inl rfl), if_pos (Or.inl rfl), y0]
      rw [y0] at r4
      refine M_nd W.ev T5 hN hn hv G2 (c := 0) (by decide) (by decide) (by decide) T4 r4 (xR_cg _ _) (fun σ5 T5' r5 x3 e3 => ?_)
      rw [show (1 : Int32) + 2 = 3 by decide] at e3
      subst e3
      have ng : ¬ (tM w.toNatClampNeg (gi σ 456) = -1 ∨ tM w.toNatClampNeg (gi σ 456) < tM w.toNatClampNeg (gi σ 456)) := fun o => o.elim (fun e => by rw [e] at t0; exact absurd t0 (by decide)) (fun e => by rw [nlt] at e; omega)
      rw [y1, et, if_neg ng, if_neg ng]
      rw [y1] at r5
      rw [wX12_bestNudge_66]
      refine ⟨fun _ x4 e4 => ?_, fun h => absurd (by decide) h⟩
      rw [show (0 : Int32) + 100 = nI (100 * (0 + 1)) by decide] at e4
      subst e4
      refine M_55 W.ev T5 hN hn hv G2 5 0 _ _ _ σ5 (by omega) t0 T5' r5 (xR_cg _ _) (fun σb mb cb => ?_)
      have e' : bnud w.toNatClampNeg q (gi σ 456) (2 * 5) (2 * 0) (xR (gi σ 456) (rN w.toNatClampNeg (xR (gi σ 456) (rN w.toNatClampNeg (gi σ 456))))) 0 (tM w.toNatClampNeg (gi σ 456)) = res := hres.symm
      rw [e']
      exact tri_fin W hK t2 mb cb rfl
    rw [← ew] at hm
    exact hm
  have cls : ∀ q : Nat, (v = 0 ∧ q = 0 ∨ v = 1 ∧ q = 1) → (1 ≤ w.toInt ∧ w.toInt ≤ 1000) → ∀ X : String → zS → Prop, wX3_copyFrom (zSl S) σ 277 261 (fun σ7 => wX11_misprintsOfTrial (zSl S) σ7 0 w (fun r9 σ8 => ∃ n10 : Nat, wxX11_bestNudge_36 (zSl S) (fun r2 σ1 => ∀ x6 : Int64, x6 = r2.toInt64 → vp_in (0 : Int32) (zSl S 463) ∧ ∀ σ8 : zS, σ8 = sl σ1 463 (0 : Int32).toNatClampNeg x6 → wX12_bestNudge (zSl S) σ8 455 v w (fun r10 σ9 => K 0 r10 σ9)) X n10 0 v w 0 r9 100 σ8)) := by
    intro q hv hw X
    have cw := ncl (a := w) (by omega)
    have ew : w = nI w.toNatClampNeg := by
      rw [neq, nI_toInt (by omega)]
      omega
    have hn : w.toNatClampNeg ≤ 2000 := by omega
    refine T_copy W W.tl (fun σ' k t gp => ?_)
    have hc := T_mis W hN t gp k W.ev zkp.rf (n := w.toNatClampNeg) hn T5 (Q := fun r9 σ8 => ∃ n10 : Nat, wxX11_bestNudge_36 (zSl S) (fun r2 σ1 => ∀ x6 : Int64, x6 = r2.toInt64 → vp_in (0 : Int32) (zSl S 463) ∧ ∀ σ8 : zS, σ8 = sl σ1 463 (0 : Int32).toNatClampNeg x6 → wX12_bestNudge (zSl S) σ8 455 v w (fun r10 σ9 => K 0 r10 σ9)) X n10 0 v w 0 r9 100 σ8) (fun σ2 t2 => ⟨5 + 1, ?_⟩)
    · rw [← ew] at hc
      exact hc
    · have h36 := C_36 W hN hn hv (X := X) (Q := fun r2 σ1 => ∀ x6 : Int64, x6 = r2.toInt64 → vp_in (0 : Int32) (zSl S 463) ∧ ∀ σ8 : zS, σ8 = sl σ1 463 (0 : Int32).toNatClampNeg x6 → wX12_bestNudge (zSl S) σ8 455 v w (fun r10 σ9 => K 0 r10 σ9)) 5 0 (xR (gi σ 456) (rN w.toNatClampNeg (xR (gi σ 456) (rN w.toNatClampNeg (gi σ 456))))) 0 (tM w.toNatClampNeg (gi σ 456)) σ2 (by omega) t2 (xR_cg _ _) (fun σ3 t3 => OUT _ _ (mod q hv hw _ rfl σ3 t3))
      rw [← ew, show nI (100 * (0 + 1)) = 100 by decide] at h36
      exact h36
  unfold wL_bestNudge wxX11_bestNudge
  refine c_reqOffice (fun hv => c_range (fun hr => ⟨277, g4, 261, W.g3, ?_⟩) (fun hr => ⟨fun h => absurd h iae_ne, fun _ => ⟨rfl, thr2 hv hr⟩⟩)) (fun hv => ⟨fun _ => thr1 hv, fun h => absurd rfl h⟩)
  rcases hv with hv | hv
  · exact cls 0 (Or.inl ⟨hv, rfl⟩) hr _
  · exact cls 1 (Or.inr ⟨hv, rfl⟩) hr _
