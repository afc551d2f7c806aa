/-! TRIALS: the best rate -/
def brate (n q : Nat) (r : Nat → Int32) : Nat → Nat → (Nat → Int32) → Int32 → Int32 → Int32
  | 0, _, _, b, _ => b
  | d + 1, i, x, b, w => if b = -1 ∨ fN n (zu x (23 + q) (nI i)) 0 < w then brate n q r d (i + 1) (xR r (rN n (zu x (23 + q) (nI i)))) (nI i) (fN n (zu x (23 + q) (nI i)) 0) else brate n q r d (i + 1) (xR r (rN n (zu x (23 + q) (nI i)))) b w
theorem br_row {r x : Nat → Int32} {N i q : Nat} (h : zEv r N) (hq : q = 0 ∨ q = 1) (hi : 10 ≤ i ∧ i ≤ 999) (c : zcg r x) : zEv (zu x (23 + q) (nI i)) N ∧ zkp r (zu x (23 + q) (nI i)) ∧ zu x (23 + q) (nI i) 5 = r 5 := by
  have e := nI_toInt (n := i) (by omega)
  have hW : zW (zu x (23 + q) (nI i)) := by
    rcases hq with rfl | rfl
    · exact zW_u23 (zW_cg h.1 c) (by rw [e]; omega)
    · exact zW_u24 (zW_cg h.1 c) (by rw [e]; omega)
  obtain ⟨h1, h2, h3⟩ := zEv_set (zEv_cg h c) (k := 23 + q) (v := nI i) (by omega) hW
  exact ⟨h1, (zkp_cg c).tr h2, h3.trans (c 5 (by omega))⟩
theorem br_zero {y : Nat → Int32} {N : Nat} (h : zEv y N) : zEv (zu (zu y 35 0) 36 0) N ∧ zkp y (zu (zu y 35 0) 36 0) ∧ zu (zu y 35 0) 36 0 5 = y 5 := by
  have kp : zkp y (zu (zu y 35 0) 36 0) := zkp_zu (zkp_zu zkp.rf (nsk (by omega)) _) (nsk (by omega)) _
  have e : ∀ k, k ≠ 35 → k ≠ 36 → zu (zu y 35 0) 36 0 k = y k := fun k h1 h2 => by rw [zu_ne h2, zu_ne h1]
  exact ⟨zEv_keep h (zW_out (zW_out h.1 (nk (by omega)) _) (nk (by omega)) _) kp (fun k hk => e k (by omega) (by omega)), kp, e 5 (by omega) (by omega)⟩
section ZBR
variable {S : zSp} {σ σ1 : zS} {N p p' s m : Nat} {h : Nat → Nat → Int32}
theorem T_wor (W : zWp S σ N p p' s m h) (hN : N ≤ 512) (T : zTl σ σ1) (gp : gr σ1 277 0 = some p) {r : Nat → Int32} (K : KM σ1 277 r) (E : zEv r N) (kp : zkp (gi σ 456) r) {n : Nat} (hn : n ≤ 2000) (h5 : (r 5).toInt ≤ 100000) {Q : Int32 → zS → Prop} (hq : ∀ σ', zTl σ σ' → Q (fN n r 0) σ') : wX11_worstOffsetOfTrial (zSl S) σ1 0 (nI n) Q := by
  have g4 : gr σ1 0 4 = some 277 := by rw [T.1 0 4 (by omega)]; exact W.1.1.2.2.2.2.1
  have S1 := (T.st W).2.2.2.2.1 277 (Or.inr (Or.inl rfl))
  have hp := W.pb
  obtain ⟨k1, k2⟩ := KM_si (σ := σ1) (b := 277) (k := 1) (j := 5) (v := 0) (by decide) (RRs_35 K _)
  obtain ⟨k3, k4⟩ := KM_si (σ := si σ1 278 5 0) (b := 277) (k := 4) (j := 5) (v := 0) (by decide) (RRs_36 k1 _)
  have F := k2.tr k4
  have T2 := T.go F k3
  obtain ⟨z1, z2, z3⟩ := br_zero E
  refine ⟨277, g4, 278, S1.1.1, fun σ3 e3 => ?_⟩
  subst e3
  refine ⟨277, g4, 281, S1.1.2.1, fun σ6 e6 => ⟨n + 1, ?_⟩⟩
  subst e6
  refine C_wor24 (p := p) (N := N) (Or.inl (by omega)) hN (m := n) (by omega) n 0 _ (zu (zu r 35 0) 36 0) (by omega) g4 S1 gp (((T2.pl W).c kp W.w).c z2 E.1) k3 z1 (by rw [z3]; omega) (fun σ' k' f' => ?_)
  have e := fN_zmx hN E (n := n) (by omega)
  unfold zmx at e
  rw [← e]
  exact hq σ' (T2.go f' k')
theorem C_br (W : zWp S σ N p p' s m h) (hN : N ≤ 512) {n : Nat} (hn : n ≤ 2000) {v : Int32} {q : Nat} (hv : v = 0 ∧ q = 0 ∨ v = 1 ∧ q = 1) {hi : Nat} (hh : hi ≤ 999) {Q : Int32 → zS → Prop} {X : String → zS → Prop} : ∀ (d i : Nat) (x : Nat → Int32) (b w : Int32) (σ1 : zS), i + d = hi + 1 → 10 ≤ i → zTl σ σ1 → zcg (gi σ 456) x → (∀ σ', zTl σ σ' → Q (brate n q (gi σ 456) d i x b w) σ') → wxX11_bestRate_44 (zSl S) Q X (d + 1) 0 v (nI n) (nI hi) b w (nI i) σ1
  | 0, i, x, b, w, σ1, hi1, h10, T, c, hq => by
    have e : nI hi < nI i := by rw [nlt, nI_toInt (by omega), nI_toInt (by omega)]; omega
    rw [wxX11_bestRate_44]
    exact ⟨fun _ => hq σ1 T, fun h => absurd e h⟩
  | d + 1, i, x, b, w, σ1, hi1, h10, T, c, hq => by
    have T5 := W.2.2.2.1.2.2
    have e : ¬ nI hi < nI i := by rw [nlt, nI_toInt (by omega), nI_toInt (by omega)]; omega
    have g4 : gr σ1 0 4 = some 277 := by rw [T.1 0 4 (by omega)]; exact W.1.1.2.2.2.2.1
    have g3 : gr σ1 0 3 = some 261 := by rw [T.1 0 3 (by omega)]; exact W.g3
    obtain ⟨y1, y2, y3⟩ := br_row W.ev (i := i) (q := q) (by omega) (by omega) c
    have go : ∀ (b' w' : Int32) σ2, zTl σ σ2 → (∀ σ', zTl σ σ' → Q (brate n q (gi σ 456) d (i + 1) (xR (gi σ 456) (rN n (zu x (23 + q) (nI i)))) b' w') σ') → ∀ x8 : Int32, x8 = nI i + 1 → (wxX11_bestRate_44 (zSl S) Q X (d + 1)) 0 v (nI n) (nI hi) b' w' x8 σ2 := by
      intro b' w' σ2 T2 hq2 x8 e8
      rw [nI_1] at e8
      subst e8
      exact C_br W hN hn hv hh d (i + 1) _ b' w' σ2 (by omega) (by omega) T2 (xR_cg _ _) hq2
    rw [brate] at hq
    have fin : ∀ σ2, zTl σ σ2 → ((b = (-1) → wxX11_bestRate_95 (zSl S) Q X (wxX11_bestRate_44 (zSl S) Q X (d + 1)) 0 v (nI n) (nI hi) (nI i) (fN n (zu x (23 + q) (nI i)) 0) σ2) ∧ (¬ b = (-1) → ((w ≤ (fN n (zu x (23 + q) (nI i)) 0) → ∀ x10 : Int32, x10 = nI i + 1 → (wxX11_bestRate_44 (zSl S) Q X (d + 1)) 0 v (nI n) (nI hi) b w x10 σ2) ∧ (¬ w ≤ (fN n (zu x (23 + q) (nI i)) 0) → wxX11_bestRate_95 (zSl S) Q X (wxX11_bestRate_44 (zSl S) Q X (d + 1)) 0 v (nI n) (nI hi) (nI i) (fN n (zu x (23 + q) (nI i)) 0) σ2)))) := by
      intro σ2 T2
      refine ⟨fun hb => ?_, fun hb => ⟨fun hl => ?_, fun hl => ?_⟩⟩
      · rw [if_pos (Or.inl hb)] at hq
        exact go _ _ σ2 T2 hq
      · rw [if_neg (fun o => o.elim hb (fun o => absurd hl (nge.mpr o)))] at hq
        exact go _ _ σ2 T2 hq
      · rw [if_pos (Or.inr (nge.mp hl))] at hq
        exact go _ _ σ2 T2 hq
    rw [wxX11_bestRate_44]
    refine ⟨fun h => absurd h e, fun _ => ⟨277, g4, 261, g3, T_copy W T (fun σ' k t gp => ⟨277, by rw [t.1 0 4 (by omega)]; exact W.1.1.2.2.2.2.1, ?_⟩)⟩⟩
    have S1 := (t.st W).2.2.2.2.1 277 (Or.inr (Or.inl rfl))
    rcases hv with ⟨hv, rfl⟩ | ⟨hv, rfl⟩
    · refine ⟨fun h => by rw [hv] at h; exact absurd h (by decide), fun _ => ⟨278, S1.1.1, fun σ7 e7 => ?_⟩⟩
      subst e7
      obtain ⟨k1, k2⟩ := KM_si (σ := σ') (b := 277) (k := 1) (j := 1) (v := nI i) (by decide) (RRs_23 (KM_cg k W.w c) _)
      exact T_wor W hN (t.go k2 k1) gp k1 y1 y2 hn (by rw [y3]; exact T5) fin
    · refine ⟨fun _ => ⟨281, S1.1.2.1, fun σ7 e7 => ?_⟩, fun h => absurd hv h⟩
      subst e7
      obtain ⟨k1, k2⟩ := KM_si (σ := σ') (b := 277) (k := 4) (j := 1) (v := nI i) (by decide) (RRs_24 (KM_cg k W.w c) _)
      exact T_wor W hN (t.go k2 k1) gp k1 y1 y2 hn (by rw [y3]; exact T5) fin
end ZBR
theorem zMf_9 (σ : zS) (v : Int32) : zMf σ (si σ 455 9 v) := ⟨rfl, fun a _ _ h1 => si_out _ _ h1, fun j _ h2 => by rw [si_at, zu_ne h2]⟩
theorem M_br {ln : Nat → Nat} {r : Nat → Int32} {N : Nat} (E : zEv r N) (h5 : (r 5).toInt ≤ 100000) (hN : N ≤ 512) {n : Nat} (hn : n ≤ 2000) {v : Int32} {q : Nat} (hv : v = 0 ∧ q = 0 ∨ v = 1 ∧ q = 1) {R hi : Nat} (hR : 10 ≤ R ∧ R ≤ 999) (hh : hi = R + 5 ∧ hi ≤ 999 ∨ hi = 999 ∧ hi ≤ R + 5) {σ1 : zS} (G1 : zMg (gr σ1) ln) {Q : Int32 → zS → Prop} : ∀ (d i d' i' : Nat) (x : Nat → Int32) (b w : Int32) (σa : zS), i + d = R + 6 → (i < 10 ∧ i' = 10 ∧ d' + 10 = hi + 1) ∨ (10 ≤ i ∧ i ≤ hi ∧ i' = i ∧ d' + i = hi + 1) ∨ (hi < i ∧ d' = 0) → zMt σ1 σa r → gi σa 456 = x → zcg r x → (∀ σ', zMt σ1 σ' r → zcg r (gi σ' 456) → Q (brate n q r d' i' x b w) σ') → wX12_bestRate_69 ln Q (d + 1) 455 v (nI n) b w (nI R) (nI i) σa
  | 0, i, d', i', x, b, w, σa, hid, hc, T, ex, c, hq => by
    have t5 : (5 : Int32).toInt = 5 := rfl
    have eR := nI_toInt (n := R) (by omega)
    have ei := nI_toInt (n := i) (by omega)
    have e : (nI R + 5) < nI i := by rw [nlt, nadd (by rw [eR, t5]; omega) (by rw [eR, t5]; omega), eR, t5, ei]; omega
    have d0 : d' = 0 := by omega
    subst d0
    rw [wX12_bestRate_69]
    exact ⟨fun _ => hq σa T (by rw [ex]; exact c), fun h => absurd e h⟩
  | d + 1, i, d', i', x, b, w, σa, hid, hc, T, ex, c, hq => by
    have t5 : (5 : Int32).toInt = 5 := rfl
    have eR := nI_toInt (n := R) (by omega)
    have ei := nI_toInt (n := i) (by omega)
    have e : ¬ (nI R + 5) < nI i := by rw [nlt, nadd (by rw [eR, t5]; omega) (by rw [eR, t5]; omega), eR, t5, ei]; omega
    have u0 : (10 : Int64).toInt = 10 := rfl
    have u5 : (999 : Int64).toInt = 999 := rfl
    have Ga : zMg (gr σa) ln := by rw [T.r]; exact G1
    rw [wX12_bestRate_69]
    refine ⟨fun h => absurd h e, fun _ x1 e1 => ?_⟩
    subst e1
    refine n_isIn (fun hr => ⟨fun h => absurd h (by decide), fun _ => ?_⟩) (fun hr => ⟨fun _ x17 e17 => ?_, fun h => absurd rfl h⟩)
    · rw [t64, u0, u5, ei] at hr
      have hB : 10 ≤ i ∧ i ≤ hi ∧ i' = i ∧ d' + i = hi + 1 := by omega
      obtain ⟨b1, b2, b3, b4⟩ := hB
      obtain ⟨d'', hd''⟩ : ∃ d'', d' = d'' + 1 := ⟨d' - 1, by omega⟩
      rw [hd'', b3, brate] at hq
      obtain ⟨y1, y2, y3⟩ := br_row E (i := i) (q := q) (by omega) (by omega) c
      refine ⟨456, Ga.1.1, fun x5 e5 => ?_⟩
      subst e5
      refine ⟨by rw [Ga.2.1]; exact (oix hv 23 (by decide)).2, fun σ7 e7 σ8 e8 => ?_⟩
      rw [show ((23 : Int32) + v).toNatClampNeg = 23 + q from (oix hv 23 (by decide)).1] at e7
      subst e7 e8
      have e456 : gi (si (si σa 456 (23 + q) (nI i)) 455 9 0) 456 = zu x (23 + q) (nI i) := by rw [si_out _ _ (by decide), si_at, ex]
      have e9 : gi (si (si σa 456 (23 + q) (nI i)) 455 9 0) 455 9 = 0 := by rw [si_at, zu_self]
      refine M_wrong (σ := si (si σa 456 (23 + q) (nI i)) 455 9 0) Ga hN (by rw [e456]; exact y1) hn (by rw [e456, y3]; exact h5) (fun σb rb fb9 fb => ?_)
      rw [e456] at rb
      rw [e456, e9] at fb9
      have Gb : zMg (gr σb) ln := by rw [fb.r]; exact Ga
      refine ⟨458, Gb.1.2.2.1, 456, Gb.1.1, M_back Gb ((T.go ((zMf_i _ _ _).tr (zMf_9 _ _))).go fb) (fun σc mc rc rc5 gc => ?_)⟩
      rw [rb] at rc
      have f9 : gi σc 455 9 = fN n (zu x (23 + q) (nI i)) 0 := by rw [rc5]; exact fb9
      have go : ∀ (b' w' : Int32), (∀ σ', zMt σ1 σ' r → zcg r (gi σ' 456) → Q (brate n q r d'' (i + 1) (xR r (rN n (zu x (23 + q) (nI i)))) b' w') σ') → ∀ x8 : Int32, x8 = nI i + 1 → (wX12_bestRate_69 ln Q (d + 1)) 455 v (nI n) b' w' (nI R) x8 σc := by
        intro b' w' hq2 x8 e8
        rw [nI_1] at e8
        subst e8
        exact M_br E h5 hN hn hv hR hh G1 d (i + 1) d'' (i + 1) _ b' w' σc (by omega) (by omega) mc rc (xR_cg _ _) hq2
      rw [f9]
      refine ⟨fun hb => ?_, fun hb => ⟨fun hl => ?_, fun hl => ?_⟩⟩
      · rw [if_pos (Or.inl hb)] at hq
        intro x1 e1
        rw [f9] at e1
        subst e1
        exact go _ _ hq
      · rw [if_pos (Or.inr hl)] at hq
        intro x1 e1
        rw [f9] at e1
        subst e1
        exact go _ _ hq
      · rw [if_neg (fun o => o.elim hb hl)] at hq
        exact go _ _ hq
    · rw [t64, u0, u5, ei] at hr
      rw [nI_1] at e17
      subst e17
      exact M_br E h5 hN hn hv hR hh G1 d (i + 1) d' i' x b w σa (by omega) (by omega) T ex c hq
theorem L_bestRate {S : zSp} {σ : zS} {N : Nat} (W : zWd S σ N) (hN : N ≤ 512) {v w : Int32} {K : Int32 → Int32 → zS → Prop} (hK : zEnd S N K) : wL_bestRate (zSl S) σ 0 v w 463 (fun r5 σ4 => wX12_bestRate (zSl S) σ4 455 v w (fun r10 σ9 => K r5 r10 σ9)) := by
  obtain ⟨p, p', s, m, h, W⟩ := W
  have OUT : ∀ (σ0 : zS) (r : Int32), wX12_bestRate (zSl S) (sl σ0 463 0 r.toInt64) 455 v w (fun r10 σ9 => K 0 r10 σ9) → ∀ x6 : Int64, x6 = r.toInt64 → vp_in (0 : Int32) (zSl S 463) ∧ ∀ σ8 : zS, σ8 = sl σ0 463 (0 : Int32).toNatClampNeg x6 → wX12_bestRate (zSl S) σ8 455 v w (fun r10 σ9 => K 0 r10 σ9) := fun σ0 r hq => c_out (σ := σ0) W.l463 (Q := fun r5 σ4 => wX12_bestRate (zSl S) σ4 455 v w (fun r10 σ9 => K r5 r10 σ9)) hq
  have u0 : (1 : Int64).toInt = 1 := rfl
  have u5 : (1000 : Int64).toInt = 1000 := rfl
  have T5 := W.2.2.2.1.2.2
  have thr1 : ¬ (v = 0 ∨ v = 1) → wX12_bestRate (zSl S) σ 455 v w (fun r10 σ9 => K 1 r10 σ9) := by
    intro hv σ1 e1
    subst e1
    exact n_isOffice (fun h => absurd h hv) (fun _ => ⟨fun _ => n_raise (W.thr hK (by decide)), fun h => absurd rfl h⟩)
  have thr2 : (v = 0 ∨ v = 1) → ¬ (1 ≤ w.toInt ∧ w.toInt ≤ 1000) → wX12_bestRate (zSl S) σ 455 v w (fun r10 σ9 => K 2 r10 σ9) := by
    intro hv hw σ1 e1
    subst e1
    refine n_isOffice (fun _ => ⟨fun h => absurd h (by decide), fun _ x4 e4 => ?_⟩) (fun h => absurd hv h)
    subst e4
    refine n_isIn (fun hh => absurd ?_ hw) (fun _ => ⟨fun _ => n_raise (W.thr hK (by decide)), fun h => absurd rfl h⟩)
    rw [t64, u0, u5] at hh
    exact hh
  have main : ∀ q : Nat, (v = 0 ∧ q = 0 ∨ v = 1 ∧ q = 1) → (1 ≤ w.toInt ∧ w.toInt ≤ 1000) → ∀ x3 : Int32, x3 = gi σ 456 (23 + q) → ∀ x6 : Int32, x6 = x3 + 5 → ∀ x7 : Int32, x7 = (if 999 < x6 then 999 else x6) → ∀ x8 : Int32, x8 = x3 - 5 → ∀ x9 : Int32, x9 = (if x8 < 10 then 10 else x8) → ∃ n10 : Nat, wxX11_bestRate_44 (zSl S) (fun r2 σ1 => ∀ x6 : Int64, x6 = r2.toInt64 → vp_in (0 : Int32) (zSl S 463) ∧ ∀ σ8 : zS, σ8 = sl σ1 463 (0 : Int32).toNatClampNeg x6 → wX12_bestRate (zSl S) σ8 455 v w (fun r10 σ9 => K 0 r10 σ9)) (fun E5 σ3 => (E5 = "java/lang/IndexOutOfBoundsException" → wX12_bestRate (zSl S) σ3 455 v w (fun r10 σ9 => K 1 r10 σ9)) ∧ (¬ E5 = "java/lang/IndexOutOfBoundsException" → E5 = "java/lang/IllegalArgumentException" ∧ wX12_bestRate (zSl S) σ3 455 v w (fun r10 σ9 => K 2 r10 σ9))) n10 0 v w x7 (-1) 0 x9 σ := by
    intro q hv hw x3 e3 x6 e6 x7 e7 x8 e8 x9 e9
    have hrt := W.w.rt (q := q) (by omega)
    have crt := ncl (a := gi σ 456 (23 + q)) (by omega)
    have cw := ncl (a := w) (by omega)
    have t5 : (5 : Int32).toInt = 5 := rfl
    have t10 : (10 : Int32).toInt = 10 := rfl
    have t999 : (999 : Int32).toInt = 999 := rfl
    have ew : w = nI w.toNatClampNeg := by
      rw [neq, nI_toInt (by omega)]
      omega
    have eR : gi σ 456 (23 + q) = nI (gi σ 456 (23 + q)).toNatClampNeg := by
      rw [neq, nI_toInt (by omega)]
      omega
    generalize hRR : (gi σ 456 (23 + q)).toNatClampNeg = R at crt eR
    have i6 : x6.toInt = (R : Int) + 5 := by rw [e6, e3, nadd (by rw [t5]; omega) (by rw [t5]; omega), t5]; omega
    have i8 : x8.toInt = (R : Int) - 5 := by rw [e8, e3, nsub (by rw [t5]; omega) (by rw [t5]; omega), t5]; omega
    obtain ⟨hi, hh, e7'⟩ : ∃ hi : Nat, (hi = R + 5 ∧ hi ≤ 999 ∨ hi = 999 ∧ hi ≤ R + 5) ∧ x7 = nI hi := by
      by_cases c : (999 : Int32) < x6
      · rw [if_pos c] at e7
        rw [nlt, t999, i6] at c
        exact ⟨999, by omega, e7⟩
      · rw [if_neg c] at e7
        rw [nlt, t999, i6] at c
        exact ⟨R + 5, by omega, by rw [e7, neq, i6, nI_toInt (by omega)]; omega⟩
    obtain ⟨lo, hl, e9'⟩ : ∃ lo : Nat, (lo = 10 ∧ R ≤ 14 ∨ lo + 5 = R ∧ 10 ≤ lo) ∧ x9 = nI lo := by
      by_cases c : x8 < (10 : Int32)
      · rw [if_pos c] at e9
        rw [nlt, t10, i8] at c
        exact ⟨10, by omega, e9⟩
      · rw [if_neg c] at e9
        rw [nlt, t10, i8] at c
        exact ⟨R - 5, by omega, by rw [e9, neq, i8, nI_toInt (by omega)]; omega⟩
    rw [e7', e9']
    refine ⟨hi + 1 - lo + 1, ?_⟩
    have hc := C_br W hN (n := w.toNatClampNeg) (by omega) hv (hi := hi) (by omega) (X := fun E5 σ3 => (E5 = "java/lang/IndexOutOfBoundsException" → wX12_bestRate (zSl S) σ3 455 v w (fun r10 σ9 => K 1 r10 σ9)) ∧ (¬ E5 = "java/lang/IndexOutOfBoundsException" → E5 = "java/lang/IllegalArgumentException" ∧ wX12_bestRate (zSl S) σ3 455 v w (fun r10 σ9 => K 2 r10 σ9))) (Q := fun r7 σ6 => ∀ x6 : Int64, x6 = r7.toInt64 → vp_in (0 : Int32) (zSl S 463) ∧ ∀ σ8 : zS, σ8 = sl σ6 463 (0 : Int32).toNatClampNeg x6 → wX12_bestRate (zSl S) σ8 455 v w (fun r10 σ9 => K 0 r10 σ9)) (hi + 1 - lo) lo (gi σ 456) (-1) 0 σ (by omega) (by omega) W.tl (fun _ _ => rfl) (fun σ2 t2 => OUT _ _ ?_)
    · rw [← ew] at hc
      exact hc
    · generalize hres : brate w.toNatClampNeg q (gi σ 456) (hi + 1 - lo) lo (gi σ 456) (-1) 0 = res
      intro σ3 e3' 
      subst e3'
      have G2 : zMg (gr (si (sl σ2 463 0 res.toInt64) 455 0 0)) (zSl S) := (t2.st W).2.2.2.2.2.2
      have e456 : gi (si (sl σ2 463 0 res.toInt64) 455 0 0) 456 = gi σ 456 := by rw [row_t]; exact (t2.2.2.1 456 (by omega)).1
      refine n_isOffice (fun _ => ⟨fun h => absurd h (by decide), fun _ x4 e4 => ?_⟩) (fun hn => absurd (hv.elim (fun x => Or.inl x.1) (fun x => Or.inr x.1)) hn)
      subst e4
      refine n_isIn (fun _ => ⟨fun h => absurd h (by decide), fun _ => ⟨456, G2.1.1, 458, G2.1.2.2.1, ?_⟩⟩) (fun hx => absurd (by rw [t64, u0, u5]; exact hw) hx)
      refine M_save G2 (fun σa ma ra => ?_)
      rw [e456] at ma ra
      have Ga : zMg (gr σa) (zSl S) := by rw [ma.r]; exact G2
      refine ⟨456, Ga.1.1, fun x11 e11 => ?_⟩
      subst e11
      refine ⟨W.v (oix hv 23 (by decide)).2, fun x13 e13 x14 e14 => ?_⟩
      rw [show ((23 : Int32) + v).toNatClampNeg = 23 + q from (oix hv 23 (by decide)).1, ra, eR] at e13
      have e14' : x14 = nI (R - 5) := by
        rw [e14, e13, neq, nsub (by rw [t5, nI_toInt (by omega)]; omega) (by rw [t5, nI_toInt (by omega)]; omega), t5, nI_toInt (by omega), nI_toInt (by omega)]
        omega
      rw [e13, e14']
      refine ⟨11 + 1, ?_⟩
      have hm := M_br W.ev T5 hN (n := w.toNatClampNeg) (by omega) hv (R := R) (hi := hi) (by omega) hh G2 (Q := fun r10 σ9 => K 0 r10 σ9) 11 (R - 5) (hi + 1 - lo) lo (gi σ 456) (-1) 0 σa (by omega) (by omega) ma ra (fun _ _ => rfl) (fun σb mb cb => by
        rw [hres]
        exact tri_fin W hK t2 mb cb rfl)
      rw [← ew] at hm
      exact hm
  unfold wL_bestRate wxX11_bestRate
  refine c_office W.st (fun hv x3 e3 => c_range (fun hr => ?_) (fun hr => ⟨fun h => absurd h iae_ne, fun _ => ⟨rfl, thr2 (Or.inl hv) hr⟩⟩)) (fun hv x3 e3 => c_range (fun hr => ?_) (fun hr => ⟨fun h => absurd h iae_ne, fun _ => ⟨rfl, thr2 (Or.inr hv) hr⟩⟩)) (fun hv => ⟨fun _ => thr1 hv, fun h => absurd rfl h⟩)
  · have e2 : gi σ 262 1 = gi σ 456 23 := W.km.2.1.1.2.1
    rw [e2] at e3
    exact main 0 (Or.inl ⟨hv, rfl⟩) hr x3 e3
  · have e2 : gi σ 265 1 = gi σ 456 24 := W.km.2.1.2.2.1
    rw [e2] at e3
    exact main 1 (Or.inr ⟨hv, rfl⟩) hr x3 e3
