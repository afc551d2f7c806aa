/-! CALLS: lines -/
/-- there is that line -/
def zLok (r : Nat → Int32) (v w : Int32) : Prop := ∃ q k : Nat, (v = 0 ∧ q = 0 ∨ v = 1 ∧ q = 1) ∧ w = nI k ∧ k < 12 ∧ (k : Int) < (r (25 + q)).toInt
theorem w_line_no {ln : Nat → Nat} {σ : zS} {a : Nat} {v : Int32} (h : v.toInt < 0 ∨ (gi σ a 2).toInt ≤ v.toInt) {Q : Option Nat → zS → Prop} (hq : Q none σ) : wX0_line ln σ a v Q := by
  have t0 : (0 : Int32).toInt = 0 := rfl
  refine ⟨fun _ => hq, fun h1 => ⟨fun _ => hq, fun h2 => ?_⟩⟩
  rw [nlt] at h1
  rw [nle] at h2
  omega
theorem zWp.cnt {S : zSp} {σ : zS} {N p p' s m : Nat} {h : Nat → Nat → Int32} (W : zWp S σ N p p' s m h) {q : Nat} (hq : q ≤ 1) : gi σ (p + 3 + 62 * q) 2 = gi σ 456 (25 + q) ∧ 0 ≤ (gi σ 456 (25 + q)).toInt ∧ (gi σ 456 (25 + q)).toInt ≤ 12 := by
  rcases (show q = 0 ∨ q = 1 by omega) with rfl | rfl
  · exact ⟨W.pl.2.2.1.1, W.w.L0⟩
  · exact ⟨W.pl.2.2.1.2, W.w.L1⟩
theorem c_lineAt {S : zSp} {σ : zS} {N p p' s m : Nat} {h : Nat → Nat → Int32} (W : zWp S σ N p p' s m h) {v w : Int32} {Q : Nat → zS → Prop} {X : String → zS → Prop} (h1 : ∀ q k : Nat, (v = 0 ∧ q = 0 ∨ v = 1 ∧ q = 1) → w = nI k → k < 12 → (k : Int) < (gi σ 456 (25 + q)).toInt → Q (p + 5 + 62 * q + 5 * k) σ) (h0 : ¬ zLok (gi σ 456) v w → X "java/lang/IndexOutOfBoundsException" σ) : wxX11_lineAt (zSl S) σ 0 v w Q X := by
  have PS := W.ps
  have g : ∀ q, (v = 0 ∧ q = 0 ∨ v = 1 ∧ q = 1) → wX0_line (zSl S) σ (p + 3 + 62 * q) w (fun r4 σ3 => (r4 = none → X "java/lang/IndexOutOfBoundsException" σ3) ∧ (∀ j5 : Nat, r4 = some j5 → Q j5 σ3)) := by
    intro q hq
    have hq1 : q ≤ 1 := by omega
    obtain ⟨c1, c2, c3⟩ := W.cnt hq1
    have g3 : gr σ (p + 3 + 62 * q) 3 = some (p + 4 + 62 * q) := by
      rcases hq with ⟨_, rfl⟩ | ⟨_, rfl⟩
      · exact PS.2.2.1.1
      · exact PS.2.2.1.2.1
    have gl : zSl S (p + 4 + 62 * q) = 12 := by
      rcases hq with ⟨_, rfl⟩ | ⟨_, rfl⟩
      · exact PS.2.2.1.2.2.1
      · exact PS.2.2.1.2.2.2
    by_cases hw : 0 ≤ w.toInt ∧ w.toInt < (gi σ 456 (25 + q)).toInt
    · have cw := ncl hw.1
      have cc := ncl c2
      have ew : w = nI w.toNatClampNeg := by rw [neq, nI_toInt (by omega)]; omega
      have ec : gi σ (p + 3 + 62 * q) 2 = nI (gi σ 456 (25 + q)).toNatClampNeg := by rw [c1, neq, nI_toInt (by omega)]; omega
      refine w_line (k := w.toNatClampNeg) g3 gl ec (by omega) ew (by omega) (PS.2.2.2 q (by omega) _ (by omega)).1 ⟨fun e => absurd e (by simp), fun j5 e5 => ?_⟩
      obtain rfl := Option.some.inj e5
      exact h1 q _ hq ew (by omega) (by omega)
    · refine w_line_no ?_ ⟨fun _ => h0 (fun e => hw ?_), fun j5 e5 => absurd e5 (by simp)⟩
      · rw [c1]; omega
      · obtain ⟨q', k, e1, e2, e3, e4⟩ := e
        have : q' = q := by
          rcases hq with ⟨x, rfl⟩ | ⟨x, rfl⟩ <;> rcases e1 with ⟨y, rfl⟩ | ⟨y, rfl⟩
          · rfl
          · rw [x] at y; exact absurd y (by decide)
          · rw [x] at y; exact absurd y (by decide)
          · rfl
        subst this
        have : w.toInt = k := by rw [e2, nI_toInt (by omega)]
        omega
  unfold wxX11_lineAt
  refine c_desk W.st W.gp PS (fun hv => g 0 (Or.inl ⟨hv, rfl⟩)) (fun hv => g 1 (Or.inr ⟨hv, rfl⟩)) (fun hv => h0 (fun e => ?_))
  obtain ⟨q, k, e1, _⟩ := e
  exact hv (e1.elim (fun x => Or.inl x.1) (fun x => Or.inr x.1))
theorem n_isLine {ln : Nat → Nat} {σ : zS} (G : zMg (gr σ) ln) (hW : zW (gi σ 456)) {v w : Int32} {Q : Int32 → zS → Prop} (h1 : ∀ q k : Nat, (v = 0 ∧ q = 0 ∨ v = 1 ∧ q = 1) → w = nI k → k < 12 → (k : Int) < (gi σ 456 (25 + q)).toInt → Q 1 σ) (h0 : ¬ zLok (gi σ 456) v w → Q 0 σ) : wX12_isLine ln σ 455 v w Q := by
  have u0 : (0 : Int64).toInt = 0 := rfl
  have t1 : (1 : Int32).toInt = 1 := rfl
  refine n_isOffice (fun hv => ⟨fun h => absurd h (by decide), fun _ => ⟨456, G.1.1, fun x4 e4 => ?_⟩⟩) (fun hv => ⟨fun _ => h0 (fun e => ?_), fun h => absurd rfl h⟩)
  · obtain ⟨q, hq⟩ : ∃ q : Nat, v = 0 ∧ q = 0 ∨ v = 1 ∧ q = 1 := hv.elim (fun x => ⟨0, Or.inl ⟨x, rfl⟩⟩) (fun x => ⟨1, Or.inr ⟨x, rfl⟩⟩)
    have hc : 0 ≤ (gi σ 456 (25 + q)).toInt ∧ (gi σ 456 (25 + q)).toInt ≤ 12 := by
      rcases hq with ⟨_, rfl⟩ | ⟨_, rfl⟩
      · exact hW.L0
      · exact hW.L1
    subst e4
    refine ⟨by rw [G.2.1]; exact (oix hq 25 (by decide)).2, fun x6 e6 x7 e7 => ?_⟩
    rw [show ((25 : Int32) + v).toNatClampNeg = 25 + q from (oix hq 25 (by decide)).1] at e6
    subst e6 e7
    have em : (gi σ 456 (25 + q) - 1).toInt = (gi σ 456 (25 + q)).toInt - 1 := by rw [nsub (by rw [t1]; omega) (by rw [t1]; omega), t1]
    refine n_isIn (fun hh => ⟨fun h => absurd h (by decide), fun _ => ?_⟩) (fun hh => ⟨fun _ => h0 (fun e => hh ?_), fun h => absurd rfl h⟩)
    · rw [t64, t64, u0, em] at hh
      have cw := ncl hh.1
      exact h1 q w.toNatClampNeg hq (by rw [neq, nI_toInt (by omega)]; omega) (by omega) (by omega)
    · obtain ⟨q', k, e1, e2, e3, e4⟩ := e
      have : q' = q := by
        rcases hq with ⟨x, rfl⟩ | ⟨x, rfl⟩ <;> rcases e1 with ⟨y, rfl⟩ | ⟨y, rfl⟩
        · rfl
        · rw [x] at y; exact absurd y (by decide)
        · rw [x] at y; exact absurd y (by decide)
        · rfl
      subst this
      have : w.toInt = k := by rw [e2, nI_toInt (by omega)]
      rw [t64, t64, u0, em]
      omega
  · obtain ⟨q, k, e1, _⟩ := e
    exact hv (e1.elim (fun x => Or.inl x.1) (fun x => Or.inr x.1))
theorem zMf_Lk {σ σ' : zS} (h : zMf σ σ') (e : gi σ' 456 = gi σ 456) : zLk σ σ' := ⟨h.r, fun a ha => by
  by_cases e1 : a = 456
  · rw [e1]; exact e
  · exact h.2.1 a e1 (by omega) (by omega), fun a _ => by rw [h.l], fun j hj => h.2.2 j (by omega) (by omega)⟩
theorem M_finds {ln : Nat → Nat} {σ : zS} (G : zMg (gr σ) ln) (hW : zW (gi σ 456)) {v w : Int32} {q k : Nat} (hq : v = 0 ∧ q = 0 ∨ v = 1 ∧ q = 1) (hw : w = nI k) (hk : k < 12) {Q : zS → Prop} (hQ : ∀ σ', gi σ' 456 = gi σ 456 → zMf σ σ' → gi σ' 455 7 = nI (rPath (gi σ 456) (12 * q + k)).length → zpre (gi σ' 460) (rPath (gi σ 456) (12 * q + k)) → Q σ') : wX12_finds ln σ 455 v w Q := by
  have ha : 12 * q + k ≤ 23 := by omega
  have hov : 12 * v + w = nI (12 * q + k) := by
    rw [hw]
    rcases hq with ⟨rfl, rfl⟩ | ⟨rfl, rfl⟩
    · have : (12 : Int32) * 0 = nI 0 := by decide
      rw [this, nI_add]
    · have : (12 : Int32) * 1 = nI 12 := by decide
      rw [this, nI_add]
  have := m_finds (σ := σ) (r := gi σ 456) (pf := gi σ 460) (n := gi σ 455 7) (far := gi σ 455 9) (Q := Q) G.1.1 G.2.1 G.1.2.2.2.2.1 G.2.2.2.2.2.1 hW.N ha hov (hW.len _ (by omega)) (fun pf' hp => hQ _ rfl (zMf_zms σ _ _ _ _) rfl hp)
  rw [zms_self] at this
  exact this
section ZEND2
variable {S : zSp} {σ : zS} {N p p' s m : Nat} {h : Nat → Nat → Int32} {K : Int32 → Int32 → zS → Prop}
theorem zWp.fin2 (W : zWp S σ N p p' s m h) (hK : zEnd S N K) {r b : Int32} (hb : b = r) {σ' : zS} (e : zMf (si (sl σ 463 0 r.toInt64) 455 0 0) σ') (e2 : gi σ' 456 = gi σ 456) : K 0 b σ' := hK _ _ _ ⟨p, p', s, m, h, zLk_W ((zLk_o.tr zLk_t).tr (zMf_Lk e (by rw [e2, row_t]; rfl))) W⟩ (by rw [e.2.2 0 (by decide) (by decide)]; exact gi_t _ _) (fun _ => by rw [e.l, gl_o, hb])
theorem zWp.thr2 (W : zWp S σ N p p' s m h) (hK : zEnd S N K) {k b : Int32} (hk : ¬ k = 0) {σ' : zS} (e : zMf (si σ 455 0 0) σ') (e2 : gi σ' 456 = gi σ 456) : K k b (si σ' 455 0 k) := hK _ _ _ ⟨p, p', s, m, h, zLk_W ((zLk_t.tr (zMf_Lk e (by rw [e2, row_t]))).tr zLk_t) W⟩ (gi_t _ _) (fun e => absurd e hk)
theorem zWp.ln (W : zWp S σ N p p' s m h) {q k : Nat} (hq : q < 2) (hk : k < 12) (hk2 : (k : Int) < (gi σ 456 (25 + q)).toInt) : gr σ (p + 5 + 62 * q + 5 * k) 1 = some (p + 8 + 62 * q + 5 * k) ∧ gr σ (p + 8 + 62 * q + 5 * k) 0 = some (p + 9 + 62 * q + 5 * k) ∧ zSl S (p + 9 + 62 * q + 5 * k) = 62 ∧ gi σ (p + 8 + 62 * q + 5 * k) 1 = nI (rPath (gi σ 456) (12 * q + k)).length ∧ (∀ j, j < (rPath (gi σ 456) (12 * q + k)).length → gi σ (p + 9 + 62 * q + 5 * k) j = (rPath (gi σ 456) (12 * q + k)).getD j 0) ∧ 2 ≤ (rPath (gi σ 456) (12 * q + k)).length ∧ (rPath (gi σ 456) (12 * q + k)).length ≤ 62 := by
  obtain ⟨⟨x1, x2, x3, x4⟩, xx⟩ := W.pl.2.2.2.2 q hq k hk
  obtain ⟨y1, y2⟩ := xx hk2
  have := rPath_len W.w (a := 12 * q + k) (by omega)
  exact ⟨x2, x3, x4, y1, y2, this.1, this.2⟩
end ZEND2
theorem L_lineLength {S : zSp} {σ : zS} {N : Nat} (W : zWd S σ N) {v w : Int32} {K : Int32 → Int32 → zS → Prop} (hK : zEnd S N K) : wL_lineLength (zSl S) σ 0 v w 463 (fun r5 σ4 => wX12_lineLength (zSl S) σ4 455 v w (fun r10 σ9 => K r5 r10 σ9)) := by
  obtain ⟨p, p', s, m, h, W⟩ := W
  have S1 := W.sm
  obtain ⟨⟨m1, m2, m3, m4, m5, m6⟩, ⟨a1, a2, a3, a4, a5, a6, a7, a8, a9⟩, ⟨l1, l2, l3, l4, l5, l6⟩⟩ := S1
  have K1 := W.km
  have X1 := W.x
  have OUT : ∀ r : Int32, wX12_lineLength (zSl S) (sl σ 463 0 r.toInt64) 455 v w (fun r10 σ9 => K 0 r10 σ9) → ∀ x6 : Int64, x6 = r.toInt64 → vp_in (0 : Int32) (zSl S 463) ∧ ∀ σ8 : zS, σ8 = sl σ 463 (0 : Int32).toNatClampNeg x6 → wX12_lineLength (zSl S) σ8 455 v w (fun r10 σ9 => K 0 r10 σ9) := fun r hq => c_out (σ := σ) W.l463 (Q := fun r5 σ4 => wX12_lineLength (zSl S) σ4 455 v w (fun r10 σ9 => K r5 r10 σ9)) hq
  unfold wL_lineLength wxX11_lineLength
  refine c_lineAt W (fun q k hq hw hk hk2 => ?_) (fun hn => ⟨rfl, ?_⟩)
  · have hq2 : q < 2 := by omega
    refine ⟨p + 6 + 62 * q + 5 * k, (W.ps.2.2.2 q hq2 k hk).2.1, OUT _ ?_⟩
    have ec : gi σ (p + 6 + 62 * q + 5 * k) 1 = gi σ 456 (219 + 12 * q + k) := W.2.2.1.2 q hq2 k hk hk2
    intro σ1 e1
    subst e1
    refine n_isLine (σ := si (sl σ 463 0 _) 455 0 0) W.mg (by rw [row_t]; exact W.w) (fun q' k' hq' hw' hk' _ => ⟨fun h => absurd h (by decide), fun _ => ⟨456, W.q1, fun x7 e7 => ?_⟩⟩) (fun hx => absurd ⟨q, k, hq, hw, hk, by rw [row_t]; exact hk2⟩ hx)
    have x0 : (219 : Int32) + ((12 * v) + w) = nI (219 + (12 * q + k)) := by
      rw [hw]
      rcases hq with ⟨rfl, rfl⟩ | ⟨rfl, rfl⟩
      · have : (12 : Int32) * 0 = nI 0 := by decide
        rw [this, nI_add]
        exact nI_add 219 _
      · have : (12 : Int32) * 1 = nI 12 := by decide
        rw [this, nI_add]
        exact nI_add 219 _
    rw [x0] at e7
    subst e7
    refine ⟨W.v (vp_in_nI (by omega) (by omega)), ?_⟩
    rw [nI_clamp (by omega), row_t, ← Nat.add_assoc]
    exact W.fin hK ec.symm
  · intro σ1 e1
    subst e1
    exact n_isLine (σ := si σ 455 0 0) W.mg (by rw [row_t]; exact W.w) (fun q' k' hq' hw' hk' hk2 => absurd ⟨q', k', hq', hw', hk', by rw [row_t] at hk2; exact hk2⟩ hn) (fun _ => ⟨fun _ => n_raise (W.thr hK (by decide)), fun h => absurd rfl h⟩)
theorem L_pulsesOf {S : zSp} {σ : zS} {N : Nat} (W : zWd S σ N) {v w : Int32} {K : Int32 → Int32 → zS → Prop} (hK : zEnd S N K) : wL_pulsesOf (zSl S) σ 0 v w 463 (fun r5 σ4 => wX12_pulsesOf (zSl S) σ4 455 v w (fun r10 σ9 => K r5 r10 σ9)) := by
  obtain ⟨p, p', s, m, h, W⟩ := W
  have S1 := W.sm
  obtain ⟨⟨m1, m2, m3, m4, m5, m6⟩, ⟨a1, a2, a3, a4, a5, a6, a7, a8, a9⟩, ⟨l1, l2, l3, l4, l5, l6⟩⟩ := S1
  have K1 := W.km
  have X1 := W.x
  have OUT : ∀ r : Int32, wX12_pulsesOf (zSl S) (sl σ 463 0 r.toInt64) 455 v w (fun r10 σ9 => K 0 r10 σ9) → ∀ x6 : Int64, x6 = r.toInt64 → vp_in (0 : Int32) (zSl S 463) ∧ ∀ σ8 : zS, σ8 = sl σ 463 (0 : Int32).toNatClampNeg x6 → wX12_pulsesOf (zSl S) σ8 455 v w (fun r10 σ9 => K 0 r10 σ9) := fun r hq => c_out (σ := σ) W.l463 (Q := fun r5 σ4 => wX12_pulsesOf (zSl S) σ4 455 v w (fun r10 σ9 => K r5 r10 σ9)) hq
  unfold wL_pulsesOf wxX11_pulsesOf
  refine c_lineAt W (fun q k hq hw hk hk2 => ?_) (fun hn => ⟨rfl, ?_⟩)
  · have hq2 : q < 2 := by omega
    obtain ⟨x1, x2, x3, x4, x5, x6, x7⟩ := W.ln hq2 hk hk2
    refine ⟨p + 8 + 62 * q + 5 * k, x1, OUT _ ?_⟩
    rw [x4]
    intro σ1 e1
    subst e1
    refine n_isLine (σ := si (sl σ 463 0 _) 455 0 0) W.mg (by rw [row_t]; exact W.w) (fun q' k' hq' hw' hk' _ => ⟨fun h => absurd h (by decide), fun _ => ?_⟩) (fun hx => absurd ⟨q, k, hq, hw, hk, by rw [row_t]; exact hk2⟩ hx)
    refine M_finds (σ := si (sl σ 463 0 _) 455 0 0) W.mg (by rw [row_t]; exact W.w) hq hw hk (fun σ' r1 r2 r3 _ => ?_)
    rw [row_t] at r1 r3
    rw [r3]
    exact W.fin2 hK rfl r2 r1
  · intro σ1 e1
    subst e1
    exact n_isLine (σ := si σ 455 0 0) W.mg (by rw [row_t]; exact W.w) (fun q' k' hq' hw' hk' hk2 => absurd ⟨q', k', hq', hw', hk', by rw [row_t] at hk2; exact hk2⟩ hn) (fun _ => ⟨fun _ => n_raise (W.thr hK (by decide)), fun h => absurd rfl h⟩)
theorem L_pulseOf {S : zSp} {σ : zS} {N : Nat} (W : zWd S σ N) {v w z : Int32} {K : Int32 → Int32 → zS → Prop} (hK : zEnd S N K) : wL_pulseOf (zSl S) σ 0 v w z 463 (fun r5 σ4 => wX12_pulseOf (zSl S) σ4 455 v w z (fun r10 σ9 => K r5 r10 σ9)) := by
  obtain ⟨p, p', s, m, h, W⟩ := W
  have S1 := W.sm
  obtain ⟨⟨m1, m2, m3, m4, m5, m6⟩, ⟨a1, a2, a3, a4, a5, a6, a7, a8, a9⟩, ⟨l1, l2, l3, l4, l5, l6⟩⟩ := S1
  have K1 := W.km
  have X1 := W.x
  have OUT : ∀ r : Int32, wX12_pulseOf (zSl S) (sl σ 463 0 r.toInt64) 455 v w z (fun r10 σ9 => K 0 r10 σ9) → ∀ x6 : Int64, x6 = r.toInt64 → vp_in (0 : Int32) (zSl S 463) ∧ ∀ σ8 : zS, σ8 = sl σ 463 (0 : Int32).toNatClampNeg x6 → wX12_pulseOf (zSl S) σ8 455 v w z (fun r10 σ9 => K 0 r10 σ9) := fun r hq => c_out (σ := σ) W.l463 (Q := fun r5 σ4 => wX12_pulseOf (zSl S) σ4 455 v w z (fun r10 σ9 => K r5 r10 σ9)) hq
  have t1 : (1 : Int32).toInt = 1 := rfl
  have u0 : (0 : Int64).toInt = 0 := rfl
  have go : ∀ (σ0 : zS), gr σ0 = gr σ → gi σ0 456 = gi σ 456 → ∀ q k, (v = 0 ∧ q = 0 ∨ v = 1 ∧ q = 1) → w = nI k → k < 12 → (k : Int) < (gi σ 456 (25 + q)).toInt → ∀ Q : Int32 → zS → Prop,
      (∀ σ', gi σ' 456 = gi σ 456 → zMf (si σ0 455 0 0) σ' → ((∀ j, j < (rPath (gi σ 456) (12 * q + k)).length → z = nI j → Q ((rPath (gi σ 456) (12 * q + k)).getD j 0) σ') ∧ (¬ (0 ≤ z.toInt ∧ z.toInt < ((rPath (gi σ 456) (12 * q + k)).length : Nat)) → Q 0 (si σ' 455 0 1)))) → wX12_pulseOf (zSl S) σ0 455 v w z Q := by
    intro σ0 g0 i0 q k hq hw hk hk2 Q hQ σ1 e1
    subst e1
    have G0 : zMg (gr (si σ0 455 0 0)) (zSl S) := by show zMg (gr σ0) _; rw [g0]; exact W.mg
    have W0 : zW (gi (si σ0 455 0 0) 456) := by rw [row_t, i0]; exact W.w
    obtain ⟨x1, x2, x3, x4, x5, x6, x7⟩ := W.ln (show q < 2 by omega) hk hk2
    refine n_isLine G0 W0 (fun _ _ _ _ _ _ => ⟨fun h => absurd h (by decide), fun _ => ?_⟩) (fun hx => absurd ⟨q, k, hq, hw, hk, by rw [row_t, i0]; exact hk2⟩ hx)
    refine M_finds G0 W0 hq hw hk (fun σ' r1 r2 r3 r4 x5' e5 x6' e6 => ?_)
    rw [row_t, i0] at r1 r3 r4
    rw [r3] at e5
    subst e5 e6
    obtain ⟨h1, h0⟩ := hQ σ' r1 r2
    have em : (nI (rPath (gi σ 456) (12 * q + k)).length - 1).toInt = ((rPath (gi σ 456) (12 * q + k)).length : Int) - 1 := by rw [nsub (by rw [t1, nI_toInt (by omega)]; omega) (by rw [t1, nI_toInt (by omega)]; omega), t1, nI_toInt (by omega)]
    refine n_isIn (fun hh => ⟨fun h => absurd h (by decide), fun _ => ?_⟩) (fun hh => ⟨fun _ => n_raise (h0 (fun e => hh ?_)), fun h => absurd rfl h⟩)
    · rw [t64, t64, u0, em] at hh
      have cz := ncl hh.1
      have ez : z = nI z.toNatClampNeg := by rw [neq, nI_toInt (by omega)]; omega
      refine ⟨460, by rw [r2.r]; exact G0.1.2.2.2.2.1, by rw [W.mg.2.2.2.2.2.1]; exact nin hh.1 (by omega), ?_⟩
      rw [r4 _ (by omega)]
      exact h1 _ (by omega) ez
    · rw [t64, t64, u0, em]
      omega
  unfold wL_pulseOf wxX11_pulseOf
  refine c_lineAt W (fun q k hq hw hk hk2 => ?_) (fun hn => ⟨rfl, ?_⟩)
  · obtain ⟨x1, x2, x3, x4, x5, x6, x7⟩ := W.ln (show q < 2 by omega) hk hk2
    refine ⟨p + 8 + 62 * q + 5 * k, x1, ?_⟩
    refine c_itemAt x2 x3 (by decide) x4 x7 (fun j hj hz => OUT _ ?_) (fun hn => ⟨rfl, ?_⟩)
    · rw [x5 j hj]
      refine go (sl σ 463 0 _) rfl rfl q k hq hw hk hk2 _ (fun σ' r1 r2 => ⟨fun j' hj' hz' => ?_, fun hx => absurd ?_ hx⟩)
      · have : j' = j := by
          rw [hz] at hz'
          exact ((nI_eq (by omega) (by omega)).mp hz').symm
        subst this
        exact W.fin2 hK rfl r2 r1
      · have : z.toInt = j := by rw [hz, nI_toInt (by omega)]
        omega
    · refine go σ rfl rfl q k hq hw hk hk2 _ (fun σ' r1 r2 => ⟨fun j' hj' hz' => absurd ?_ hn, fun hx => W.thr2 hK (by decide) r2 r1⟩)
      have : z.toInt = j' := by rw [hz', nI_toInt (by omega)]
      omega
  · intro σ1 e1
    subst e1
    exact n_isLine (σ := si σ 455 0 0) W.mg (by rw [row_t]; exact W.w) (fun q' k' hq' hw' hk' hk2 => absurd ⟨q', k', hq', hw', hk', by rw [row_t] at hk2; exact hk2⟩ hn) (fun _ => ⟨fun _ => n_raise (W.thr hK (by decide)), fun h => absurd rfl h⟩)
/-! the ticks to a position -/
def pWay (x P : Int) : Int := if x % P = 0 then P else x % P
def pTk (pos ph rt P : Int) : Int := (pWay (1000 * pos - ph) P + rt - 1) / rt
theorem pWay_b {x P : Int} (hP : 0 < P) : 1 ≤ pWay x P ∧ pWay x P ≤ P := by
  have h1 := Int.emod_nonneg x (show P ≠ 0 by omega)
  have h2 := Int.emod_lt_of_pos x hP
  unfold pWay
  split <;> omega
theorem pWay_e {x P : Int} (hP : 0 < P) : (x - 1) % P + 1 = pWay x P := by
  have h1 := Int.emod_nonneg x (show P ≠ 0 by omega)
  have h2 := Int.emod_lt_of_pos x hP
  have h3 := Int.mul_ediv_add_emod x P
  unfold pWay
  by_cases h : x % P = 0
  · rw [if_pos h]
    have e : x - 1 = (P - 1) + P * (x / P - 1) := by rw [Int.mul_sub]; omega
    rw [e, Int.add_mul_emod_self_left, Int.emod_eq_of_lt (by omega) (by omega)]
    omega
  · rw [if_neg h]
    have e : x - 1 = (x % P - 1) + P * (x / P) := by omega
    rw [e, Int.add_mul_emod_self_left, Int.emod_eq_of_lt (by omega) (by omega)]
    omega
theorem pTk_b {pos ph rt P : Int} (hP : 0 < P ∧ P ≤ 28000) (hr : 10 ≤ rt ∧ rt ≤ 999) : 1 ≤ pTk pos ph rt P ∧ pTk pos ph rt P ≤ 2900 ∧ pTk pos ph rt P * rt ≤ 28998 ∧ 0 ≤ pTk pos ph rt P * rt := by
  obtain ⟨h1, h2⟩ := pWay_b (x := 1000 * pos - ph) hP.1
  unfold pTk
  generalize pWay (1000 * pos - ph) P = y at h1 h2
  have a1 : 1 ≤ (y + rt - 1) / rt := (Int.le_ediv_iff_mul_le (by omega)).mpr (by omega)
  have a2 := Int.ediv_mul_le (y + rt - 1) (show rt ≠ 0 by omega)
  have a3 : 10 * ((y + rt - 1) / rt) ≤ (y + rt - 1) / rt * rt := by
    rw [Int.mul_comm ((y + rt - 1) / rt) rt]
    exact Int.mul_le_mul_of_nonneg_right hr.1 (by omega)
  omega
theorem C_pass {ln : Nat → Nat} {σ : zS} {v0 v1 v2 v3 : Int32} (h0 : 0 ≤ v0.toInt ∧ v0.toInt < 28) (h1 : 0 ≤ v1.toInt ∧ v1.toInt < 28000) (h2 : 10 ≤ v2.toInt ∧ v2.toInt ≤ 999) (h3 : 6000 ≤ v3.toInt ∧ v3.toInt ≤ 28000) {Q : Int32 → zS → Prop} (hq : Q (iI (pTk v0.toInt v1.toInt v2.toInt v3.toInt)) σ) : wX11_ticksToPass ln σ v0 v1 v2 v3 Q := by
  have t0 : (0 : Int32).toInt = 0 := rfl
  have t1 : (1 : Int32).toInt = 1 := rfl
  have tk : (1000 : Int32).toInt = 1000 := rfl
  have e1 : (1000 * v0).toInt = 1000 * v0.toInt := by rw [nmul (by rw [tk]; omega) (by rw [tk]; omega), tk]
  have e2 : (1000 * v0 - v1).toInt = 1000 * v0.toInt - v1.toInt := by rw [nsub (by rw [e1]; omega) (by rw [e1]; omega), e1]
  have e3 : (1000 * v0 - v1 - 1).toInt = 1000 * v0.toInt - v1.toInt - 1 := by rw [nsub (by rw [e2, t1]; omega) (by rw [e2, t1]; omega), e2, t1]
  intro x1 ex1
  subst ex1
  refine wmodulo (by omega) (fun x4 ex4 => ?_)
  rw [e3] at ex4
  obtain ⟨w1, w2⟩ := pWay_b (x := 1000 * v0.toInt - v1.toInt) (P := v3.toInt) (by omega)
  have we := pWay_e (x := 1000 * v0.toInt - v1.toInt) (P := v3.toInt) (by omega)
  have m1 := mIt (v := 1000 * v0.toInt - v1.toInt - 1) (n := v3.toInt) (by omega) (by omega)
  have e4 : x4.toInt = pWay (1000 * v0.toInt - v1.toInt) v3.toInt := by rw [ex4, nadd (by rw [m1, t1]; omega) (by rw [m1, t1]; omega), m1, t1]; exact we
  obtain ⟨b1, b2, b3, b4⟩ := pTk_b (pos := v0.toInt) (ph := v1.toInt) (rt := v2.toInt) (P := v3.toInt) (by omega) h2
  have e5 : (x4 + v2).toInt = x4.toInt + v2.toInt := nadd (by omega) (by omega)
  have e6 : (x4 + v2 - 1).toInt = x4.toInt + v2.toInt - 1 := by rw [nsub (by rw [e5, t1]; omega) (by rw [e5, t1]; omega), e5, t1]
  refine ⟨fun h => absurd h (by rw [nle]; omega), fun _ => ⟨fun e => ?_, ?_⟩⟩
  · rw [e] at h2; omega
  have e7 : (x4 + v2 - 1) / v2 = iI (pTk v0.toInt v1.toInt v2.toInt v3.toInt) := by
    rw [neq, ndiv (by omega) (by omega), iIt (by omega) (by omega), e6, e4]
    rfl
  rw [e7]
  exact hq
theorem M_pass {ln : Nat → Nat} {σ : zS} (G : zMg (gr σ) ln) (hN : 6 ≤ (gi σ 456 0).toInt ∧ (gi σ 456 0).toInt ≤ 28) {v1 v2 v3 : Int32} (h0 : 0 ≤ v3.toInt ∧ v3.toInt < 28) (h1 : 0 ≤ v1.toInt ∧ v1.toInt < 28000) (h2 : 10 ≤ v2.toInt ∧ v2.toInt ≤ 999) {Q : Int32 → zS → Prop} (hq : Q (iI (pTk v3.toInt v1.toInt v2.toInt (1000 * (gi σ 456 0).toInt))) σ) : wX12_passes ln σ 455 v1 v2 v3 Q := by
  have t0 : (0 : Int32).toInt = 0 := rfl
  have t1 : (1 : Int32).toInt = 1 := rfl
  have tk : (1000 : Int32).toInt = 1000 := rfl
  have uk : (1000 : Int64).toInt = 1000 := rfl
  have eN : (1000 * gi σ 456 0).toInt = 1000 * (gi σ 456 0).toInt := by rw [nmul (by rw [tk]; omega) (by rw [tk]; omega), tk]
  have e1 : (1000 * v3.toInt64).toInt = 1000 * v3.toInt := by
    rw [Int64.toInt_mul, uk, n64]
    exact nbm64 (by omega) (by omega)
  have e2 : (1000 * v3.toInt64 - v1.toInt64).toInt = 1000 * v3.toInt - v1.toInt := by
    rw [Int64.toInt_sub, e1, n64]
    exact nbm64 (by omega) (by omega)
  intro x1 ex1
  subst ex1
  refine M_within G hN (by rw [e2]; omega) ?_
  rw [e2]
  obtain ⟨b1, b2, b3, b4⟩ := pTk_b (pos := v3.toInt) (ph := v1.toInt) (rt := v2.toInt) (P := 1000 * (gi σ 456 0).toInt) (by omega) h2
  have m1 := mIt (v := 1000 * v3.toInt - v1.toInt) (n := 1000 * (gi σ 456 0).toInt) (by omega) (by omega)
  have fin : ∀ x : Int32, x.toInt = pWay (1000 * v3.toInt - v1.toInt) (1000 * (gi σ 456 0).toInt) → wX12_passes_26 ln Q v2 x σ := by
    intro x ex
    obtain ⟨w1, w2⟩ := pWay_b (x := 1000 * v3.toInt - v1.toInt) (P := 1000 * (gi σ 456 0).toInt) (by omega)
    have e5 : (x + v2).toInt = x.toInt + v2.toInt := nadd (by omega) (by omega)
    have e6 : (x + v2 - 1).toInt = x.toInt + v2.toInt - 1 := by rw [nsub (by rw [e5, t1]; omega) (by rw [e5, t1]; omega), e5, t1]
    have e7 : (x + v2 - 1) / v2 = iI (pTk v3.toInt v1.toInt v2.toInt (1000 * (gi σ 456 0).toInt)) := by
      rw [neq, ndiv (by omega) (by omega), iIt (by omega) (by omega), e6, ex]
      rfl
    refine ⟨fun e => ?_, ?_⟩
    · rw [e] at h2; omega
    rw [e7]
    exact hq
  refine ⟨fun hz => M_round G (fin _ ?_), fun hz => fin _ ?_⟩
  · rw [eN]
    rw [neq, m1, t0] at hz
    unfold pWay
    rw [if_pos hz]
  · rw [m1]
    rw [neq, m1, t0] at hz
    unfold pWay
    rw [if_neg hz]
/-- the ticks of a list of positions -/
def tkS (rt P : Int) : List Int32 → Int → Int
  | [], _ => 0
  | x :: l, ph => pTk x.toInt ph rt P + tkS rt P l ((ph + pTk x.toInt ph rt P * rt) % P)
theorem tkS_b {rt P : Int} (hP : 0 < P ∧ P ≤ 28000) (hr : 10 ≤ rt ∧ rt ≤ 999) : ∀ (l : List Int32) (ph : Int), 0 ≤ tkS rt P l ph ∧ tkS rt P l ph ≤ 2900 * l.length
  | [], _ => ⟨Int.le_refl 0, Int.le_refl 0⟩
  | x :: l, ph => by
    have h1 := pTk_b (pos := x.toInt) (ph := ph) hP hr
    have h2 := tkS_b hP hr l ((ph + pTk x.toInt ph rt P * rt) % P)
    show 0 ≤ pTk x.toInt ph rt P + tkS rt P l _ ∧ pTk x.toInt ph rt P + tkS rt P l _ ≤ 2900 * ((l.length + 1 : Nat) : Int)
    omega
theorem iI_add {a b : Int} (ha : -1000000 ≤ a ∧ a ≤ 1000000) (hb : -1000000 ≤ b ∧ b ≤ 1000000) : iI a + iI b = iI (a + b) := by
  have e1 := iIt (v := a) (by omega) (by omega)
  have e2 := iIt (v := b) (by omega) (by omega)
  rw [neq, nadd (by omega) (by omega), e1, e2, iIt (by omega) (by omega)]
