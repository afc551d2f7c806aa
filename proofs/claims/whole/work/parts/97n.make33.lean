/-! MAKING: a machine -/
theorem zPs_b {n p : Nat} {S S' : zSp} {σ σ' : zS} (h : zNb n S σ S' σ') (hp : p + 127 ≤ n) (P : zPs (gr σ) (zSl S) p) : zPs (gr σ') (zSl S') p := by
  obtain ⟨⟨p1, p2, p3⟩, ⟨p4, p5⟩, ⟨p6, p7, p8, p9⟩, pk⟩ := P
  refine ⟨⟨?_, ?_, ?_⟩, ⟨?_, ?_⟩, ⟨?_, ?_, ?_, ?_⟩, fun q hq k hk => ?_⟩
  · rw [h.r (by omega)]; exact p1
  · rw [h.r (by omega)]; exact p2
  · rw [h.l (by omega)]; exact p3
  · rw [h.r (by omega)]; exact p4
  · rw [h.r (by omega)]; exact p5
  · rw [h.r (by omega)]; exact p6
  · rw [h.r (by omega)]; exact p7
  · rw [h.l (by omega)]; exact p8
  · rw [h.l (by omega)]; exact p9
  · rw [h.r (by omega), h.r (by omega), h.r (by omega), h.r (by omega), h.l (by omega), h.l (by omega)]
    exact pk q hq k hk
theorem zBg_b {n p : Nat} {S S' : zSp} {σ σ' : zS} {r : Nat → Int32} (h : zNb n S σ S' σ') (hp : p + 127 ≤ n) (P : zBg σ p r) : zBg σ' p r := by
  unfold zBg
  rw [h.i (show p < n by omega), h.i (show p + 3 < n by omega), h.i (show p + 65 < n by omega), h.i (show p + 1 < n by omega), h.i (show p + 2 < n by omega)]
  exact P
theorem zMs_b {n b : Nat} {S S' : zSp} {σ σ' : zS} (h : zNb n S σ S' σ') (hb : b + 16 ≤ n) (M : zMs (gr σ) (zSl S) b) : zMs (gr σ') (zSl S') b := by
  obtain ⟨⟨m1, m2, m3, m4, m5, m6⟩, ⟨a1, a2, a3, a4, a5, a6, a7, a8, a9⟩, ⟨l1, l2, l3, l4, l5, l6⟩⟩ := M
  unfold zMs
  rw [h.r (show b < n by omega), h.r (show b + 1 < n by omega), h.r (show b + 2 < n by omega), h.r (show b + 4 < n by omega), h.r (show b + 5 < n by omega), h.r (show b + 7 < n by omega), h.r (show b + 8 < n by omega), h.r (show b + 10 < n by omega), h.r (show b + 12 < n by omega), h.r (show b + 14 < n by omega), h.l (show b + 3 < n by omega), h.l (show b + 6 < n by omega), h.l (show b + 9 < n by omega), h.l (show b + 11 < n by omega), h.l (show b + 13 < n by omega), h.l (show b + 15 < n by omega)]
  exact ⟨⟨m1, m2, m3, m4, m5, m6⟩, ⟨a1, a2, a3, a4, a5, a6, a7, a8, a9⟩, ⟨l1, l2, l3, l4, l5, l6⟩⟩
theorem KM_b {n b : Nat} {S S' : zSp} {σ σ' : zS} {r : Nat → Int32} (h : zNb n S σ S' σ') (hb : b + 16 ≤ n) (K : KM σ b r) : KM σ' b r := KM_o K (fun a h1 h2 => ⟨h.i (by omega), h.g (by omega)⟩)
set_option maxHeartbeats 2000000 in
theorem mkM {S : zSp} {σ : zS} {b p : Nat} {r : Nat → Int32} (hb : zSk S = b) (hpb : p + 127 ≤ b) (PS : zPs (gr σ) (zSl S) p) (P : zBg σ p r) (h20 : 0 ≤ (r 20).toInt ∧ (r 20).toInt ≤ 20) (Z : zr0 r) {Q : zSp → zS → Prop} (hq : ∀ S' σ', zNb b S σ S' σ' → zSk S' = b + 16 → zMs (gr σ') (zSl S') b → gr σ' b 0 = some p → KM σ' b r → Q S' σ') : wX3_init (zSpush S 3 0) (zfresh σ b) b p Q := by
  have k1 : zSk (zSpush S 3 0) = b + 1 := by rw [zSk_push, hb]
  have B1 := (zNb_new S σ 3 0 hb (Nat.le_refl b)).tr (zNb_si (zSpush S 3 0) (zfresh σ b) b 3 (-1) (Nat.le_refl b))
  intro σ1 e1 a2 e2 S2 eS2 σ3 e3
  rw [← e1] at B1
  clear e1
  generalize zSpush S 3 0 = S1 at k1 B1 e2 eS2
  rw [k1] at e2
  subst e2 eS2 e3
  refine mkO k1 (fun S4 σ4 B4 k4 l4 g4 h4 => ?_)
  have k4 : zSk S4 = b + 4 := k4
  intro σ6 e6 a7 e7 S7 eS7 σ8 e8
  rw [k4] at e7
  subst e6 e7 eS7 e8
  refine mkO k4 (fun S9 σ9 B9 k9 l9 g9 h9 => ?_)
  have k9 : zSk S9 = b + 7 := k9
  intro σ11 e11 a12 e12 S12 eS12 σ13 e13
  rw [k9] at e12
  subst e11 e12 eS12 e13
  refine mkV k9 (fun S14 σ14 B14 k14 l14 g14 h14 => ?_)
  have k14 : zSk S14 = b + 10 := k14
  intro σ16 e16 a17 e17 S17 eS17 σ18 e18
  rw [k14] at e17
  subst e16 e17 eS17 e18
  refine mkT (cap := 640) rfl (by decide) (by decide) k14 (fun S19 σ19 B19 k19 l19 g19 c19 => ?_)
  have k19 : zSk S19 = b + 12 := k19
  intro σ21 e21 a22 e22 S22 eS22 σ23 e23
  rw [k19] at e22
  subst e21 e22 eS22 e23
  refine mkT (cap := 40) rfl (by decide) (by decide) k19 (fun S24 σ24 B24 k24 l24 g24 c24 => ?_)
  have k24 : zSk S24 = b + 14 := k24
  intro σ26 e26 a27 e27 S27 eS27 σ28 e28
  rw [k24] at e27
  subst e26 e27 eS27 e28
  refine mkR (n := 20) rfl (by decide) k24 (fun S29 σ29 B29 k29 l29 g29 z29 z29' => ?_)
  have k29 : zSk S29 = b + 16 := k29
  intro σ31 e31
  have NB : zNb b S σ S29 σ31 := by
    subst e31
    exact (((((B1.tr (B4.mono (by omega))).tr (zNb_sr S4 σ4 b 11 _ (Nat.le_refl b))).tr ((B9.mono (by omega)).tr (zNb_sr S9 σ9 b 12 _ (Nat.le_refl b)))).tr ((B14.mono (by omega)).tr (zNb_sr S14 σ14 b 13 _ (Nat.le_refl b)))).tr ((B19.mono (by omega)).tr (zNb_sr S19 σ19 b 14 _ (Nat.le_refl b)))).tr (((B24.mono (by omega)).tr (zNb_sr S24 σ24 b 15 _ (Nat.le_refl b))).tr ((B29.mono (by omega)).tr (zNb_sr S29 σ29 b 16 _ (Nat.le_refl b))))
  have o : ∀ (σ : zS) k v a j, a ≠ b → gr (sr σ b k v) a j = gr σ a j := fun σ k v a j h => by rw [gr_sr, if_neg h]
  have s31 : ∀ a j, a ≠ b → gr σ31 a j = gr σ29 a j := fun a j h => by rw [e31]; exact o _ _ _ _ _ h
  have s29 : ∀ a j, a ≠ b → a < b + 14 → gr σ31 a j = gr σ24 a j := fun a j h h2 => by rw [s31 a j h, B29.r h2]; exact o _ _ _ _ _ h
  have s24 : ∀ a j, a ≠ b → a < b + 12 → gr σ31 a j = gr σ19 a j := fun a j h h2 => by rw [s29 a j h (by omega), B24.r h2]; exact o _ _ _ _ _ h
  have s19 : ∀ a j, a ≠ b → a < b + 10 → gr σ31 a j = gr σ14 a j := fun a j h h2 => by rw [s24 a j h (by omega), B19.r h2]; exact o _ _ _ _ _ h
  have s14 : ∀ a j, a ≠ b → a < b + 7 → gr σ31 a j = gr σ9 a j := fun a j h h2 => by rw [s19 a j h (by omega), B14.r h2]; exact o _ _ _ _ _ h
  have s9 : ∀ a j, a ≠ b → a < b + 4 → gr σ31 a j = gr σ4 a j := fun a j h h2 => by rw [s14 a j h (by omega), B9.r h2]; exact o _ _ _ _ _ h
  have R29 : ∀ j, gr σ29 b j = gr (sr σ24 b 15 (some (b + 12))) b j := fun j => by rw [B29.r (by omega)]
  have R24 : ∀ j, gr σ24 b j = gr (sr σ19 b 14 (some (b + 10))) b j := fun j => by rw [B24.r (by omega)]
  have R19 : ∀ j, gr σ19 b j = gr (sr σ14 b 13 (some (b + 7))) b j := fun j => by rw [B19.r (by omega)]
  have R14 : ∀ j, gr σ14 b j = gr (sr σ9 b 12 (some (b + 4))) b j := fun j => by rw [B14.r (by omega)]
  have R9 : ∀ j, gr σ9 b j = gr (sr σ4 b 11 (some (b + 1))) b j := fun j => by rw [B9.r (by omega)]
  have MS : zMs (gr σ31) (zSl S29) b := by
    refine ⟨⟨?_, ?_, ?_, ?_, ?_, ?_⟩, ⟨?_, ?_, ?_, ?_, ?_, ?_, ?_, ?_, ?_⟩, ⟨?_, ?_, ?_, ?_, ?_, ?_⟩⟩
    · rw [e31]; simp only [gr_sr, if_true, if_false, Nat.reduceEqDiff, R29, R24, R19, R14, R9]
    · rw [e31]; simp only [gr_sr, if_true, if_false, Nat.reduceEqDiff, R29, R24, R19, R14, R9]
    · rw [e31]; simp only [gr_sr, if_true, if_false, Nat.reduceEqDiff, R29, R24, R19, R14, R9]
    · rw [e31]; simp only [gr_sr, if_true, if_false, Nat.reduceEqDiff, R29, R24, R19, R14, R9]
    · rw [e31]; simp only [gr_sr, if_true, if_false, Nat.reduceEqDiff, R29, R24, R19, R14, R9]
    · rw [e31]; simp only [gr_sr, if_true, if_false, Nat.reduceEqDiff, R29, R24, R19, R14, R9]
    · rw [s9 _ _ (by omega) (by omega)]; exact g4
    · rw [s14 _ _ (by omega) (by omega)]; exact g9
    · rw [s9 _ _ (by omega) (by omega)]; exact h4
    · rw [s14 _ _ (by omega) (by omega)]; exact h9
    · rw [s19 _ _ (by omega) (by omega)]; exact g14
    · rw [s19 _ _ (by omega) (by omega)]; exact h14
    · rw [s24 _ _ (by omega) (by omega)]; exact g19
    · rw [s29 _ _ (by omega) (by omega)]; exact g24
    · rw [s31 _ _ (by omega)]; exact g29
    · rw [B29.l (by omega), B24.l (by omega), B19.l (by omega), B14.l (by omega), B9.l (by omega)]; exact l4
    · rw [B29.l (by omega), B24.l (by omega), B19.l (by omega), B14.l (by omega)]; exact l9
    · rw [B29.l (by omega), B24.l (by omega), B19.l (by omega)]; exact l14
    · rw [B29.l (by omega), B24.l (by omega)]; exact l19
    · rw [B29.l (by omega)]; exact l24
    · exact l29
  have c10 : gi σ31 (b + 10) 0 = nI 640 := by
    rw [e31, gi_sr, B29.i (by omega), gi_sr, B24.i (by omega), gi_sr]; exact c19
  have c12 : gi σ31 (b + 12) 0 = nI 40 := by
    rw [e31, gi_sr, B29.i (by omega), gi_sr]; exact c24
  refine C_begin MS hpb (zPs_b NB hpb PS) c10 c12 (zBg_b NB hpb P) h20 Z (fun σ' K F => hq S29 σ' ?_ k29 ?_ ?_ K)
  · refine NB.tr ⟨Nat.le_refl _, fun a ha => ⟨rfl, ?_, (F.2.2 a (by omega)).1, (F.2.2 a (by omega)).2, by rw [F.2.1]⟩⟩
    rw [F.1]
    funext j
    exact o _ _ _ _ _ (by omega)
  · rw [F.1]
    exact zMs_sr MS (Or.inl rfl) _
  · rw [F.1, gr_sr, if_pos rfl, if_pos rfl]
