/-! THE PATH OF A LINE, as the law makes it -/
/-- the code w of a String: a constant or a text on the heap below a -/
def qK (S : zSp) (σ : zS) (w a : Nat) (T : List Int32) : Prop := (w = 48 ∧ T = [97]) ∨ ∃ t, w = 2 * t + 1 ∧ qS S σ t T ∧ t < a ∧ ∀ b, gr σ t 0 = some b → b < a
theorem qK.x {S S' : zSp} {σ σ' : zS} {w a : Nat} {T : List Int32} (H : qK S σ w a T) (F : qX S σ S' σ') : qK S' σ' w a T := by
  rcases H with H | ⟨t, h1, h2, h3, h4⟩
  · exact Or.inl H
  · have ht : t < zSk S := by obtain ⟨b, -, -, -, -, x, -⟩ := h2; exact x.2
    exact Or.inr ⟨t, h1, h2.x F, h3, fun b hb => h4 b (by rw [(F.2 t ht).2.1] at hb; exact hb)⟩
theorem qK.q1 {S : zSp} {σ σ' : zS} {w a : Nat} {T : List Int32} (H : qK S σ w a T) (F : q1 a σ σ') : qK S σ' w a T := by
  rcases H with H | ⟨t, h1, h2, h3, h4⟩
  · exact Or.inl H
  · obtain ⟨x1, x2⟩ := h2.q1 h3 h4 F
    exact Or.inr ⟨t, h1, x1, h3, x2⟩
theorem c_len {S : zSp} {σ : zS} {w a : Nat} {T : List Int32} (H : qK S σ w a T) {Q : Int32 → zS → Prop} (hq : Q (nI T.length) σ) : wJ0_length_8abf5_q (zSl S) σ w Q := by
  rcases H with ⟨rfl, rfl⟩ | ⟨t, rfl, H, -, -⟩
  · refine ⟨fun _ => ?_, fun h => absurd (by decide) h⟩
    refine ⟨fun h => absurd h (by decide), fun _ => ⟨by decide +kernel, ?_⟩⟩
    show Q (nI (zSlen.getD (48 / 2) 0) >>> ((0 : Int32) &&& 31)) σ
    have e : nI (zSlen.getD (48 / 2) 0) >>> ((0 : Int32) &&& 31) = nI ([97] : List Int32).length := by decide +kernel
    rw [e]
    exact hq
  · refine ⟨fun h => absurd h (by omega), fun _ => ?_⟩
    rw [show (2 * t + 1) / 2 = t by omega]
    exact s_len H hq
theorem c_char {S : zSp} {σ : zS} {w a k : Nat} {T : List Int32} (H : qK S σ w a T) (hA : qA T) (hk : k < T.length) {Q : Int32 → zS → Prop} (hq : Q (T.getD k 0) σ) : wJ0_charAt_5068e_q (zSl S) σ w (nI k) Q := by
  rcases H with ⟨rfl, rfl⟩ | ⟨t, rfl, H, -, -⟩
  · refine ⟨fun _ => ?_, fun h => absurd (by decide) h⟩
    have hk : k < 1 := hk
    have k0 : k = 0 := by omega
    subst k0
    refine ⟨fun h => absurd h (by decide), fun _ => ⟨fun _ => ⟨fun h => absurd h (by decide), fun _ x1 e1 => ?_⟩, fun h => absurd rfl h⟩⟩
    subst e1
    refine ⟨fun h => absurd h (by decide), fun _ => ⟨fun _ => ⟨?_, fun x4 e4 => ?_⟩, fun h => absurd (by decide +kernel) h⟩⟩
    · exact vp_in_nI (by decide) (by decide)
    · have e : x4 = 97 := by rw [e4]; decide +kernel
      subst e
      exact ⟨by decide +kernel, hq⟩
  · refine ⟨fun h => absurd h (by omega), fun _ => ?_⟩
    rw [show (2 * t + 1) / 2 = t by omega]
    exact s_char H hA hk hq
theorem qS_K {S : zSp} {σ : zS} {t : Nat} {T : List Int32} (H : qS S σ t T) : qK S σ (2 * t + 1) (zSk S) T := by
  have H0 := H
  obtain ⟨b, x1, x2, x3, x4, x5, x6, x7⟩ := H
  refine Or.inr ⟨t, rfl, H0, x5.2, fun c hc => ?_⟩
  rw [x1] at hc
  injection hc with hc
  omega
section QPATH
variable {L : Nat} {xs : Nat → Int32}
theorem l_lineOf (hL : L ≤ 260) {S : zSp} {σ : zS} (hS : 455 ≤ zSk S) {k : Nat} (hk : k < qLn L xs) {Q : Nat → zSp → zS → Prop} (hq : ∀ S' σ' w, qK S' σ' w (zSk S') (lT L xs k) → qX S σ S' σ' → Q w S' σ') : wL_lineOf S σ L xs (nI k) Q := by
  have hLn := qLn_b L xs
  refine l_lines hL ⟨fun h1 => ?_, fun h1 => ?_⟩
  · have hn1 : qLn L xs = 1 := (nI_eq (a := qLn L xs) (b := 1) (by omega) (by decide)).mp h1
    have k0 : k = 0 := by omega
    subst k0
    refine l_line hL hS (k := 0) (by decide) (fun S1 σ1 t1 H1 X1 _ _ => s_empty H1 (fun he => ⟨fun e => absurd e (by decide), fun _ => ?_⟩) (fun he => ⟨fun _ => ?_, fun e => absurd rfl e⟩))
    · refine hq S1 σ1 (2 * 24) (Or.inl ⟨rfl, ?_⟩) X1
      unfold lT
      rw [if_pos ⟨hn1, he⟩]
    · refine l_line hL (Nat.le_trans hS X1.1) (k := 0) (by decide) (fun S2 σ2 t2 H2 X2 _ _ => hq S2 σ2 _ ?_ (X1.tr X2))
      have e : lT L xs 0 = lnT L xs 0 := by
        unfold lT
        rw [if_neg (fun x => he x.2)]
      rw [e]
      exact qS_K H2
  · have hn1 : qLn L xs ≠ 1 := fun e => h1 (by rw [e]; rfl)
    refine l_line hL hS (k := k) (by omega) (fun S2 σ2 t2 H2 X2 _ _ => hq S2 σ2 _ ?_ X2)
    have e : lT L xs k = lnT L xs k := by
      unfold lT
      rw [if_neg (fun x => hn1 x.1)]
    rw [e]
    exact qS_K H2
theorem chr_ok : ∀ w : Nat, w < 128 → (48 ≤ w ∧ w < 58 ∨ 97 ≤ w ∧ w < 123) → zchr (2 + zidx (nI w)) (zdig (nI w)) = nI w ∧ narrow .char (.int (nI w)) = .int (nI w) ∧ (2 + zidx (nI w)).toInt = 2 + (zidx (nI w)).toInt ∧ 0 ≤ (zidx (nI w)).toInt ∧ (zidx (nI w)).toInt < 26 ∧ ((57 : Int32) < nI w ↔ ¬ zdig (nI w) = true) := by decide +kernel
theorem ar_push {σ : zS} {a : Nat} {l : List Int32} {x : Int32} (A : ∀ i, i < l.length → gi σ a i = l.getD i 0) : ∀ i, i < (l ++ [x]).length → gi (si σ a l.length x) a i = (l ++ [x]).getD i 0 := fun i hi => by
  rw [List.length_append] at hi
  have hi : i < l.length + 1 := hi
  rw [si_at, getD_app2]
  by_cases e : i < l.length
  · rw [if_pos e, zu_ne (by omega)]
    exact A i e
  · have : i = l.length := by omega
    subst this
    rw [if_neg e, zu_self, Nat.sub_self]
    rfl
variable {S : zSp} {σ0 : zS} {r r0 : Nat → Int32} {N p p' s m : Nat} {h : Nat → Nat → Int32}
theorem p_75 {σ : zS} (W : qW S σ r N p p' s m h) (e0 : r 0 = nI (qP L xs)) {ch : Int32} (hok : lOk (qP L xs) ch) {a M w : Nat} (hla : zSl S a = 70) (hM : M < 70) (ha : 455 ≤ a) {fg v2 v4 v8 : Int32} (hfg : fg = if zdig ch = true then 1 else 0) {Q : Int32 → zSp → zS → Prop} {kb : Nat → Int32 → Nat → Int32 → Nat → Int32 → Int32 → Int32 → zSp → zS → Prop} (hk : kb 0 v2 w v4 a (nI (M + 1)) fg (v8 + 1) S (si σ a M (2 + zidx ch))) : wL_isPath_75 L xs Q kb 0 v2 w v4 a (nI M) v8 ch fg S σ := by
  have hP := qP_b L xs
  have hz := (lOk_k hok).2
  obtain ⟨u, rfl, hu⟩ := hok
  obtain ⟨c1, c2, c3, c4, c5, c6⟩ := chr_ok u (by omega) (by omega)
  have t2 : (2 : Int32).toInt = 2 := rfl
  have W3 := W.o ((q1_si a σ M (2 + zidx (nI u))).q (S := S) ha)
  have x4e : nI (M + 1) - 1 = nI M := by
    have t1 : (1 : Int32).toInt = 1 := rfl
    rw [neq, nsub (by rw [nI_toInt (by omega), t1]; omega) (by rw [nI_toInt (by omega), t1]; omega), nI_toInt (by omega), t1, nI_toInt (by omega)]
    omega
  have ch : ∀ fg : Int32, zdig (nI u) = (!decide (fg = 0)) → kb 0 v2 w v4 a (nI (M + 1)) fg (v8 + 1) S (si σ a M (2 + zidx (nI u))) → wL_isPath_127 L xs Q kb 0 v2 w v4 a (nI (M + 1)) fg v8 (nI u) 0 (gi (si σ a M (2 + zidx (nI u))) a (nI M).toNatClampNeg) fg S (si σ a M (2 + zidx (nI u))) := by
    intro fg hfg hk
    rw [nI_clamp (by omega), si_at, zu_self]
    refine ⟨fun h2 => absurd h2 (by rw [nlt, c3, t2]; omega), fun _ => ⟨p, W3.gp, ⟨fun _ => w_chr (by rw [c3]; omega) (by rw [c3]; omega) ?_, fun hx => absurd ?_ hx⟩⟩⟩
    · rw [← hfg, c1]
      exact ⟨c2, fun _ x3 e3 => by subst e3; exact hk, fun e => absurd rfl e⟩
    · rw [W3.pl.1.1, e0, nlt, c3, nI_toInt (by omega)]
      omega
  have vM : vp_in (nI M) (zSl S a) := by rw [hla]; exact vp_in_nI (by omega) (by decide)
  intro x1 e1
  rw [nI_1] at e1
  subst e1
  by_cases hd : zdig (nI u) = true
  · have ez : zidx (nI u) = nI u - 48 := by unfold zidx; rw [if_pos hd]
    rw [if_pos hd] at hfg
    subst hfg
    refine ⟨fun _ x1 e1 => ⟨vM, fun σ3 e3 x4 e4 => ⟨by rw [e4, x4e]; exact vM, ⟨fun _ => ?_, fun e => absurd rfl e⟩⟩⟩, fun e => absurd rfl e⟩
    rw [nI_clamp (by omega), e1, ← ez] at e3
    rw [x4e] at e4
    subst e3 e4
    exact ch 1 (by rw [hd]; rfl) hk
  · have ez : zidx (nI u) = nI u - 97 := by unfold zidx; rw [if_neg hd]
    rw [if_neg hd] at hfg
    subst hfg
    refine ⟨fun e => absurd e (by decide), fun _ x1 e1 => ⟨vM, fun σ3 e3 x4 e4 => ⟨by rw [e4, x4e]; exact vM, ⟨fun e => absurd e (by decide), fun _ => ?_⟩⟩⟩⟩
    rw [nI_clamp (by omega), e1, ← ez] at e3
    rw [x4e] at e4
    subst e3 e4
    exact ch 0 (by rw [Bool.not_eq_true] at hd; rw [hd]; rfl) hk
theorem p_27 {a k w : Nat} {T : List Int32} (W0 : qW S σ0 r N p p' s m h) (e0 : r 0 = nI (qP L xs)) (hk : k < 12) (hk2 : (k : Int) < (r 25).toInt) (H0 : qK S σ0 w a T) (hT : ∀ x, x ∈ T → lOk (qP L xs) x) (hT6 : T.length ≤ 6) (e219 : r (219 + k) = nI T.length) (eP : rPath r k = zpath (fun i => T.getD i 0) T.length (nI (qP L xs))) (hla : zSl S a = 70) (ha : 455 ≤ a) {Q : Int32 → zSp → zS → Prop} (hend : ∀ σ', q1 a σ0 σ' → (∀ i, i < (rPath r k).length → gi σ' a i = (rPath r k).getD i 0) → ∃ n, wL_isPath_203 L xs Q n 0 (nI k) (nI (qP L xs)) a (nI (rPath r k).length) 0 S σ') : ∀ (d j : Nat) (σ : zS), j + d = T.length → q1 a σ0 σ → (∀ i, i < (zenc (fun i => T.getD i 0) j).1.length → gi σ a i = (zenc (fun i => T.getD i 0) j).1.getD i 0) → wL_isPath_27 L xs Q (d + 1) 0 (nI k) w (nI (qP L xs)) a (nI (zenc (fun i => T.getD i 0) j).1.length) (zenc (fun i => T.getD i 0) j).2 (nI j) S σ
  | 0, j, σ, hj, F, A => by
    have hP := qP_b L xs
    have ej : j = T.length := by omega
    subst ej
    have hl := zenc_len (fun i => T.getD i 0) T.length
    have hpl : (rPath r k).length = (zenc (fun i => T.getD i 0) T.length).1.length + 2 := by rw [eP, zpath_len]
    have eP2 : rPath r k = ((zenc (fun i => T.getD i 0) T.length).1 ++ [(zenc (fun i => T.getD i 0) T.length).2]) ++ [2 + (nI (zenc (fun i => T.getD i 0) T.length).1.length - nI (zenc (fun i => T.getD i 0) T.length).1.length / (nI (qP L xs) - 2) * (nI (qP L xs) - 2))] := eP
    rw [wL_isPath_27]
    generalize zenc (fun i => T.getD i 0) T.length = z at *
    have vM : ∀ M, M ≤ 20 → vp_in (nI M) (zSl S a) := fun M hM => by rw [hla]; exact vp_in_nI (by omega) (by decide)
    refine c_len (H0.q1 F) ⟨fun _ x3 e3 => ⟨vM _ (by omega), fun σ5 e5 x6 e6 x7 e7 => ⟨?_, fun x9 e9 => ?_⟩⟩, fun hx => absurd (nI_le (by omega) (by omega)) hx⟩
    · rw [e7]
      have t2 : (2 : Int32).toInt = 2 := rfl
      have z0 : (0 : Int32).toInt = 0 := rfl
      rw [neq, nsub (by rw [nI_toInt (by omega), t2]; omega) (by rw [nI_toInt (by omega), t2]; omega), nI_toInt (by omega), t2, z0]
      omega
    · rw [nI_1] at e3
      subst e3
      rw [nI_1] at e6
      rw [nI_clamp (by omega)] at e5
      subst e5 e6 e7
      refine ⟨vM _ (by omega), fun σ11 e11 => ?_⟩
      rw [nI_clamp (by omega)] at e11
      have F11 : q1 a σ0 σ11 := by rw [e11]; exact (F.tr (q1_si _ _ _ _)).tr (q1_si _ _ _ _)
      have W11 := W0.o (F11.q (S := S) ha)
      have A11 : ∀ i, i < (rPath r k).length → gi σ11 a i = (rPath r k).getD i 0 := by
        have y1 := ar_push (x := z.2) A
        have y2 := ar_push (x := 2 + (nI z.1.length - nI z.1.length / (nI (qP L xs) - 2) * (nI (qP L xs) - 2))) y1
        rw [show (z.1 ++ [z.2]).length = z.1.length + 1 by rw [List.length_append]; rfl] at y2
        intro i hi
        rw [eP2] at hi ⊢
        rw [e11, e9]
        exact y2 i hi
      refine q_lineLength W11 hk hk2 (c_len (H0.q1 F11) ⟨fun _ => q_pulsesOf W11 hk hk2 ⟨fun _ => ?_, fun hx => absurd (by rw [hpl]) hx⟩, fun hx => absurd e219 hx⟩)
      obtain ⟨n, hn⟩ := hend σ11 F11 A11
      rw [hpl] at hn
      exact ⟨n, hn⟩
  | d + 1, j, σ, hj, F, A => by
    have hP := qP_b L xs
    have hjT : j < T.length := by omega
    have hl := zenc_len (fun i => T.getD i 0) j
    have W := W0.o (F.q (S := S) ha)
    have hok : lOk (qP L xs) (T.getD j 0) := by
      rw [gD hjT]
      exact hT _ (List.getElem_mem hjT)
    have hm57 : (57 : Int32) < T.getD j 0 ↔ ¬ zdig (T.getD j 0) = true := by
      obtain ⟨u, e, hu⟩ := hok
      rw [e]
      exact (chr_ok u (by omega) (by omega)).2.2.2.2.2
    have go : ∀ fg : Int32, fg = (if zdig (T.getD j 0) = true then 1 else 0) → wL_isPath_56 L xs Q (wL_isPath_27 L xs Q (d + 1)) 0 (nI k) w (nI (qP L xs)) a (nI (zenc (fun i => T.getD i 0) j).1.length) (zenc (fun i => T.getD i 0) j).2 (nI j) (T.getD j 0) fg S σ := by
      intro fg hfg
      have ez : zenc (fun i => T.getD i 0) (j + 1) = if fg = (zenc (fun i => T.getD i 0) j).2 then ((zenc (fun i => T.getD i 0) j).1 ++ [2 + zidx (T.getD j 0)], (zenc (fun i => T.getD i 0) j).2) else (((zenc (fun i => T.getD i 0) j).1 ++ [fg]) ++ [2 + zidx (T.getD j 0)], fg) := by
        rw [zenc, hfg]
      have rc := fun (σ' : zS) (F' : q1 a σ0 σ') (A' : ∀ i, i < (zenc (fun i => T.getD i 0) (j + 1)).1.length → gi σ' a i = (zenc (fun i => T.getD i 0) (j + 1)).1.getD i 0) => p_27 W0 e0 hk hk2 H0 hT hT6 e219 eP hla ha hend d (j + 1) σ' (by omega) F' A'
      rw [ez] at rc
      generalize zenc (fun i => T.getD i 0) j = z at *
      refine ⟨fun h1 => ?_, fun h1 x1 e1 => ⟨by rw [hla]; exact vp_in_nI (by omega) (by decide), fun σ3 e3 => ?_⟩⟩
      · rw [if_pos h1] at rc
        refine p_75 W e0 hok hla (by omega) ha hfg ?_
        have := rc _ (F.tr (q1_si a σ z.1.length (2 + zidx (T.getD j 0)))) (ar_push A)
        rw [List.length_append] at this
        rw [nI_1, h1]
        exact this
      · rw [if_neg h1] at rc
        rw [nI_1] at e1
        rw [nI_clamp (by omega)] at e3
        subst e1 e3
        have F3 := F.tr (q1_si a σ z.1.length fg)
        refine p_75 (W0.o (F3.q (S := S) ha)) e0 hok hla (by omega) ha hfg ?_
        have A3 := ar_push (x := fg) A
        have A4 := ar_push (x := 2 + zidx (T.getD j 0)) A3
        rw [show (z.1 ++ [fg]).length = z.1.length + 1 by rw [List.length_append]; rfl] at A4
        have := rc _ (F3.tr (q1_si a _ (z.1.length + 1) (2 + zidx (T.getD j 0)))) A4
        rw [show ((z.1 ++ [fg]) ++ [2 + zidx (T.getD j 0)]).length = z.1.length + 1 + 1 by rw [List.length_append, List.length_append]; rfl] at this
        rw [nI_1]
        exact this
    rw [wL_isPath_27]
    refine c_len (H0.q1 F) ⟨fun hx => absurd hx (nI_ge (by omega) (by omega)), fun _ => c_char (H0.q1 F) (qA_of hT) hjT ⟨fun h1 => go 0 ?_, fun h1 => go 1 ?_⟩⟩
    · rw [if_neg (hm57.mp h1)]
    · rw [if_pos (Decidable.byContradiction (fun h2 => h1 (hm57.mpr h2)))]
theorem l_203 (hL : L ≤ 260) {σ : zS} (W : qW S σ r N p p' s m h) (e0 : r 0 = nI (qP L xs)) (e23 : r 23 = nI (qR L xs)) {phs : Nat} (e21 : r 21 = nI phs) (hphs : phs < 1000 * qP L xs) {a k : Nat} (hk : k < 12) (hk2 : (k : Int) < (r 25).toInt) (hla : zSl S a = 70) (A : ∀ i, i < (rPath r k).length → gi σ a i = (rPath r k).getD i 0) {Q : Int32 → zSp → zS → Prop} (hq : Q 1 S σ) : ∀ (d i : Nat), i + d = (rPath r k).length → wL_isPath_203 L xs Q (d + 1) 0 (nI k) (nI (qP L xs)) a (nI (rPath r k).length) (nI i) S σ
  | 0, i, hi => by
    have hP := qP_b L xs
    have hlen := rPath_len W.w (a := k) (by omega)
    have hTf := rTf_b W.w (q := 0) (k := k) (by decide) hk
    have hb : ∀ j, j < (rPath r k).length → 0 ≤ ((rPath r k).getD j 0).toInt ∧ ((rPath r k).getD j 0).toInt < 28 := fun j hj => by
      have := W.hQ 0 (by decide) k hk hk2
      rw [show 12 * 0 + k = k by omega] at this
      exact this j hj
    have eT : rTf r 0 k = tkS (qR L xs : Int) ((1000 * qP L xs : Nat) : Int) (rPath r k) (phs : Int) := by
      have hR := qR_b L xs
      unfold rTf
      rw [show 12 * 0 + k = k by omega, show 23 + 0 = 23 from rfl, show 21 + 0 = 21 from rfl, e23, e21, e0, nI_toInt (by omega), nI_toInt (by omega), nI_toInt (by omega)]
      congr 1
    rw [wL_isPath_203]
    refine ⟨fun _ => q_phase W (Or.inl ⟨rfl, rfl⟩) ⟨(rTf r 0 k).toNat + 1, ?_⟩, fun hx => absurd (nI_le (by omega) (by omega)) hx⟩
    show wL_isPath_247 L xs Q _ 0 _ _ a _ (r 21) 0 0 S σ
    rw [e21]
    exact l_247 hL W hk hk2 hla hlen.2 hb A hq (rTf r 0 k).toNat 0 phs 0 (by rw [List.drop_zero, ← eT]; omega) (by omega) (Nat.zero_le _) hphs
  | d + 1, i, hi => by
    have hlen := rPath_len W.w (a := k) (by omega)
    have hi2 : i < (rPath r k).length := by omega
    rw [wL_isPath_203]
    refine ⟨fun hx => absurd hx (nI_ge (by omega) (by omega)), fun _ => q_pulseOf W hk hk2 hi2 ⟨by rw [hla]; exact vp_in_nI (by omega) (by decide), ⟨fun _ x7 e7 => ?_, fun hx => absurd (by rw [nI_clamp (by omega), A i hi2]) hx⟩⟩⟩
    rw [nI_1] at e7
    subst e7
    exact l_203 hL W e0 e23 e21 hphs hk hk2 hla A hq d (i + 1) (by omega)
theorem zenc_c {c c' : Nat → Int32} : ∀ k, (∀ j, j < k → c j = c' j) → zenc c k = zenc c' k
  | 0, _ => rfl
  | k + 1, h => by
    rw [zenc, zenc, zenc_c k (fun j hj => h j (by omega)), h k (by omega)]
/-- the path of a line of the text -/
theorem path_e {r : Nat → Int32} {t k : Nat} (R : qR0 L xs r0) (I : qId L xs r0 r t) (hk : k < qLn L xs) : r 0 = nI (qP L xs) ∧ r 23 = nI (qR L xs) ∧ (r 25).toInt = qLn L xs ∧ r (219 + k) = nI (lT L xs k).length ∧ rPath r k = zpath (fun i => (lT L xs k).getD i 0) (lT L xs k).length (nI (qP L xs)) := by
  have hLn := qLn_b L xs
  have h6 := lT_len L xs k
  obtain ⟨-, -, -, io⟩ := I
  obtain ⟨⟨a0, -, -⟩, ⟨-, -, b3, -⟩, c25, -, lr⟩ := R
  obtain ⟨l1, l2⟩ := lr k hk
  have e0 : r 0 = nI (qP L xs) := by rw [io 0 (by decide) (by decide) (by decide)]; exact a0
  have e219 : r (219 + k) = nI (lT L xs k).length := by rw [io _ (by omega) (by omega) (by omega)]; exact l1
  refine ⟨e0, by rw [io 23 (by decide) (by decide) (by decide)]; exact b3, by rw [io 25 (by decide) (by decide) (by decide), c25, nI_toInt (by omega)], e219, ?_⟩
  unfold rPath
  rw [e219, e0, nI_clamp (by omega)]
  unfold zpath
  have e : zenc (rChr r k) (lT L xs k).length = zenc (fun i => (lT L xs k).getD i 0) (lT L xs k).length := zenc_c _ (fun j hj => by
    show r (243 + 30 * k + j) = _
    rw [io _ (by omega) (by omega) (by omega)]
    exact l2 j hj)
  rw [e]
theorem l_isPath (hL : L ≤ 260) {σ : zS} {r : Nat → Int32} {t k : Nat} (R : qR0 L xs r0) (I : qId L xs r0 r t) (W : qW S σ r N p p' s m h) (hk : k < qLn L xs) {Q : Int32 → zSp → zS → Prop} (hq : ∀ S' σ', qW S' σ' r N p p' s m h → Q 1 S' σ') : wL_isPath S σ L xs 0 (nI k) Q := by
  have hP := qP_b L xs
  have hLn := qLn_b L xs
  obtain ⟨e0, e23, e25, e219, eP⟩ := path_e R I hk
  have hphs := ph_lt (F := qF L xs) (R := qR L xs) (t := t) (show 0 < 1000 * qP L xs by omega)
  refine l_lineOf hL W.2.2.2.2.2.2.2 hk (fun S1 σ1 w H1 X1 => l_positions hL (fun a5 e5 S5 eS5 σ6 e6 => ?_))
  have W1 := W.o (X1.q W.2.2.2.2.2.2.2)
  have hS1 := W1.2.2.2.2.2.2.2
  have X5 := qX_new S1 σ1 20 70
  have W5 := W1.o (X5.q hS1)
  have H5 := H1.x X5
  have l5 : zSl (zSpush S1 20 70) (zSk S1) = 70 := zSl_new S1 20 70
  subst e5 eS5 e6
  refine ⟨(lT L xs k).length + 1, ?_⟩
  refine p_27 (a := zSk S1) W5 e0 (by omega) (by omega) H5 (lT_ok L xs k) (lT_len L xs k) e219 eP l5 hS1 (fun σ' F' A' => ⟨(rPath r k).length + 1, ?_⟩) (lT L xs k).length 0 _ (by omega) q1.rf (fun i hi => absurd hi (Nat.not_lt_zero i))
  have W' := W5.o (F'.q (S := zSpush S1 20 70) hS1)
  exact l_203 hL W' e0 e23 I.2.1 hphs (by omega) (by omega) l5 A' (hq _ _ W') (rPath r k).length 0 (by omega)
end QPATH
