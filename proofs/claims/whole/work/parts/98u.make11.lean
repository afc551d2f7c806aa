/-! MAKING: the class's object -/
/-- nothing of the cells below n has changed, but for the object's own -/
def zNx (n : Nat) (S : zSp) (σ : zS) (S' : zSp) (σ' : zS) : Prop := ∀ a, 0 < a → a < n → zSl S' a = zSl S a ∧ gr σ' a = gr σ a ∧ gi σ' a = gi σ a ∧ gl σ' a = gl σ a
theorem zNb.x {n : Nat} {S S' : zSp} {σ σ' : zS} (h : zNb n S σ S' σ') : zNx n S σ S' σ' := fun a _ ha => ⟨h.l ha, h.r ha, h.i ha, h.g ha⟩
theorem zNx.tr {n : Nat} {S S' S'' : zSp} {σ σ' σ'' : zS} (h : zNx n S σ S' σ') (g : zNx n S' σ' S'' σ'') : zNx n S σ S'' σ'' := fun a h0 ha => by
  obtain ⟨h1, h2, h3, h4⟩ := h a h0 ha
  obtain ⟨g1, g2, g3, g4⟩ := g a h0 ha
  exact ⟨g1.trans h1, g2.trans h2, g3.trans h3, g4.trans h4⟩
theorem zNx.mono {n m : Nat} {S S' : zSp} {σ σ' : zS} (h : zNx n S σ S' σ') (e : m ≤ n) : zNx m S σ S' σ' := fun a h0 ha => h a h0 (by omega)
theorem zNx_sr {n : Nat} (S : zSp) (σ : zS) (k : Nat) (v : Option Nat) : zNx n S σ S (sr σ 0 k v) := fun a h0 _ => ⟨rfl, funext fun j => by rw [gr_sr, if_neg (by omega)], rfl, rfl⟩
theorem zNx_si {n : Nat} (S : zSp) (σ : zS) (k : Nat) (v : Int32) : zNx n S σ S (si σ 0 k v) := fun a h0 _ => ⟨rfl, rfl, funext fun j => by rw [gi_si, if_neg (by omega)], rfl⟩
theorem zPs_x {n p : Nat} {S S' : zSp} {σ σ' : zS} (h : zNx n S σ S' σ') (h0 : 0 < p) (hp : p + 127 ≤ n) (P : zPs (gr σ) (zSl S) p) : zPs (gr σ') (zSl S') p := by
  obtain ⟨⟨p1, p2, p3⟩, ⟨p4, p5⟩, ⟨p6, p7, p8, p9⟩, pk⟩ := P
  have r : ∀ a, p ≤ a → a < p + 127 → gr σ' a = gr σ a := fun a h1 h2 => (h a (by omega) (by omega)).2.1
  have l : ∀ a, p ≤ a → a < p + 127 → zSl S' a = zSl S a := fun a h1 h2 => (h a (by omega) (by omega)).1
  refine ⟨⟨?_, ?_, ?_⟩, ⟨?_, ?_⟩, ⟨?_, ?_, ?_, ?_⟩, fun q hq k hk => ?_⟩
  · rw [r _ (by omega) (by omega)]; exact p1
  · rw [r _ (by omega) (by omega)]; exact p2
  · rw [l _ (by omega) (by omega)]; exact p3
  · rw [r _ (by omega) (by omega)]; exact p4
  · rw [r _ (by omega) (by omega)]; exact p5
  · rw [r _ (by omega) (by omega)]; exact p6
  · rw [r _ (by omega) (by omega)]; exact p7
  · rw [l _ (by omega) (by omega)]; exact p8
  · rw [l _ (by omega) (by omega)]; exact p9
  · rw [r _ (by omega) (by omega), r _ (by omega) (by omega), r _ (by omega) (by omega), r _ (by omega) (by omega), l _ (by omega) (by omega), l _ (by omega) (by omega)]
    exact pk q hq k hk
theorem zP0_x {n p : Nat} {S S' : zSp} {σ σ' : zS} (h : zNx n S σ S' σ') (h0 : 0 < p) (hp : p + 127 ≤ n) (P : zP0 σ p) : zP0 σ' p := by
  have i : ∀ a, p ≤ a → a < p + 127 → gi σ' a = gi σ a := fun a h1 h2 => (h a (by omega) (by omega)).2.2.1
  unfold zP0
  rw [i p (by omega) (by omega), i (p + 1) (by omega) (by omega), i (p + 3) (by omega) (by omega), i (p + 65) (by omega) (by omega)]
  exact P
theorem zP0_B {σ : zS} {p : Nat} (P : zP0 σ p) : zBg σ p r00 := by
  obtain ⟨⟨a0, a1, a2, a3, a4⟩, b, ⟨d0, d1, d2⟩, e0, e1, e2⟩ := P
  exact ⟨a2, ⟨d0, d1⟩, ⟨e0, e1⟩, b, fun k hk => absurd hk (Nat.not_lt_zero k)⟩
/-- the class's object as it was made -/
def zMade (S : zSp) (σ : zS) : Prop := zSk S = 455 ∧ (gr σ 0 0 = some 1 ∧ gr σ 0 1 = some 3 ∧ gr σ 0 2 = some 5 ∧ gr σ 0 3 = some 261 ∧ gr σ 0 4 = some 277 ∧ gr σ 0 5 = some 293 ∧ gr σ 0 6 = some 7 ∧ gr σ 0 7 = some 134) ∧ gi σ 0 8 = -1 ∧ (gr σ 1 0 = some 2 ∧ zSl S 2 = 600 ∧ gi σ 1 1 = 0) ∧ (gr σ 3 0 = some 4 ∧ gr σ 4 2 = some 1) ∧ (gr σ 5 0 = some 6 ∧ zSl S 6 = 16 ∧ (∀ j, gi σ 5 j = 0) ∧ ∀ j, gi σ 6 j = 0) ∧ (zPs (gr σ) (zSl S) 7 ∧ zP0 σ 7) ∧ zPs (gr σ) (zSl S) 134 ∧ (gr σ 261 0 = some 7 ∧ zMs (gr σ) (zSl S) 261 ∧ KM σ 261 r00) ∧ (zMs (gr σ) (zSl S) 277 ∧ KM σ 277 r00) ∧ (gr σ 293 0 = some 294 ∧ zSl S 294 = 10 ∧ (∀ j, gi σ 293 j = 0) ∧ ∀ q, q < 10 → zkm S σ 294 q)
set_option maxHeartbeats 4000000 in
theorem mkX {S : zSp} {σ : zS} (hS : zSk S = 1) (hz : ∀ j, gi σ 0 j = 0) {Q : zSp → zS → Prop} (hq : ∀ S' σ', zMade S' σ' → Q S' σ') : wX11_init S σ 0 Q := by
  intro a1 e1 S1 eS1 σ2 e2
  rw [hS] at e1
  subst e1 eS1 e2
  refine mkR (n := 600) rfl (by decide) hS (fun S3 σ3 B3 k3 l3 g3 z3 z3' => ?_)
  have k3 : zSk S3 = 3 := k3
  intro σ5 e5 a6 e6 S6 eS6 σ7 e7
  rw [k3] at e6
  subst e5 e6 eS6 e7
  have p6 : zSk (zSpush S3 5 0) = 4 := by rw [zSk_push, k3]
  refine ⟨1, by rw [gr_zf, if_neg (by decide), gr_sr, if_pos rfl, if_pos rfl], ?_⟩
  -- the parser and the tokens
  have X6 : zNx 3 S3 σ3 (zSpush S3 5 0) (zfresh (sr σ3 0 0 (some 1)) 3) := (zNx_sr S3 σ3 0 _).tr (zNb_new S3 _ 5 0 k3 (by decide)).x
  have G6 : ∀ j, gr (zfresh (sr σ3 0 0 (some 1)) 3) 0 j = gr (sr σ3 0 0 (some 1)) 0 j := fun j => by rw [gr_zf, if_neg (by decide)]
  have I6 : ∀ j, gi (zfresh (sr σ3 0 0 (some 1)) 3) 0 j = gi σ3 0 j := fun j => by rw [gi_zf, if_neg (by decide), gi_sr]
  generalize zSpush S3 5 0 = S6 at p6 X6 ⊢
  generalize zfresh (sr σ3 0 0 (some 1)) 3 = σ7 at X6 G6 I6 ⊢
  intro a1 e1 S1 eS1 σ2 e2 σ1 e1' σ5 e5 σ11 e11 a12 e12 S12 eS12 σ13 e13
  rw [p6] at e1
  subst e1 eS1 e2 e1' e5 e11
  have p9 : zSk (zSpush S6 10 0) = 5 := by rw [zSk_push, p6]
  rw [p9] at e12
  subst e12 eS12 e13
  have X9 : zNx 3 S6 σ7 (zSpush S6 10 0) (sr (sr (sr (zfresh σ7 4) 4 2 (some 1)) 3 0 (some 4)) 0 1 (some 3)) := ((zNb_new S6 σ7 10 0 p6 (by decide)).x.tr (((zNb_sr _ _ 4 2 _ (by decide)).tr (zNb_sr _ _ 3 0 _ (by decide))).x)).tr (zNx_sr _ _ 1 _)
  have G9 : ∀ j, gr (sr (sr (sr (zfresh σ7 4) 4 2 (some 1)) 3 0 (some 4)) 0 1 (some 3)) 0 j = gr (sr σ7 0 1 (some 3)) 0 j := fun j => by simp only [gr_sr, gr_zf, if_true, if_false, Nat.reduceEqDiff]
  have I9 : ∀ j, gi (sr (sr (sr (zfresh σ7 4) 4 2 (some 1)) 3 0 (some 4)) 0 1 (some 3)) 0 j = gi σ7 0 j := fun j => by rw [gi_sr, gi_sr, gi_sr, gi_zf, if_neg (by decide)]
  have T3 : gr (sr (sr (sr (zfresh σ7 4) 4 2 (some 1)) 3 0 (some 4)) 0 1 (some 3)) 3 0 = some 4 := by rw [gr_sr, if_neg (by decide), gr_sr, if_pos rfl, if_pos rfl]
  have T4 : gr (sr (sr (sr (zfresh σ7 4) 4 2 (some 1)) 3 0 (some 4)) 0 1 (some 3)) 4 2 = some 1 := by rw [gr_sr, if_neg (by decide), gr_sr, if_neg (by decide), gr_sr, if_pos rfl, if_pos rfl]
  generalize sr (sr (sr (zfresh σ7 4) 4 2 (some 1)) 3 0 (some 4)) 0 1 (some 3) = σ11 at X9 G9 I9 T3 T4 ⊢
  generalize zSpush S6 10 0 = S9 at p9 X9 ⊢
  -- the text
  unfold wJ4_init_da8c8 wJ5_init_d00df
  refine ⟨fun x => absurd x (by decide), fun _ => ⟨by decide, by decide, fun a1 e1 S1 eS1 σ4 e4 σ5 e5 σ6 e6 => ?_⟩⟩
  have p12 : zSk (zSpush S9 13 0) = 6 := by rw [zSk_push, p9]
  rw [p12] at e1
  have c16 : (16 : Int32).toNatClampNeg = 16 := rfl
  rw [c16] at eS1
  subst e1 eS1 e4 e5 e6
  have p14 : zSk (zSpush (zSpush S9 13 0) 21 16) = 7 := by rw [zSk_push, p12]
  intro σ16 e16 a17 e17 S17 eS17 σ18 e18
  rw [p14] at e17
  subst e16 e17 eS17 e18
  have X14 : zNx 5 S9 σ11 (zSpush (zSpush S9 13 0) 21 16) (sr (si (sr (zfresh (zfresh σ11 5) 6) 5 0 (some 6)) 5 1 0) 0 2 (some 5)) := (((zNb_new S9 σ11 13 0 p9 (by decide)).tr (zNb_new _ _ 21 16 p12 (by decide))).x.tr ((zNb_sr _ _ 5 0 _ (by decide)).tr (zNb_si _ _ 5 1 _ (by decide))).x).tr (zNx_sr _ _ 2 _)
  have G14 : ∀ j, gr (sr (si (sr (zfresh (zfresh σ11 5) 6) 5 0 (some 6)) 5 1 0) 0 2 (some 5)) 0 j = gr (sr σ11 0 2 (some 5)) 0 j := fun j => by simp only [gr_sr, gr_si, gr_zf, if_true, if_false, Nat.reduceEqDiff]
  have I14 : ∀ j, gi (sr (si (sr (zfresh (zfresh σ11 5) 6) 5 0 (some 6)) 5 1 0) 0 2 (some 5)) 0 j = gi σ11 0 j := fun j => by rw [gi_sr, gi_si, if_neg (by decide), gi_sr, gi_zf, if_neg (by decide), gi_zf, if_neg (by decide)]
  have T5 : gr (sr (si (sr (zfresh (zfresh σ11 5) 6) 5 0 (some 6)) 5 1 0) 0 2 (some 5)) 5 0 = some 6 := by rw [gr_sr, if_neg (by decide), gr_si, gr_sr, if_pos rfl, if_pos rfl]
  have T5i : ∀ j, gi (sr (si (sr (zfresh (zfresh σ11 5) 6) 5 0 (some 6)) 5 1 0) 0 2 (some 5)) 5 j = 0 := fun j => by
    simp only [gi_sr, gi_si, gi_zf, if_true, if_false, Nat.reduceEqDiff, ite_self]
  have T6i : ∀ j, gi (sr (si (sr (zfresh (zfresh σ11 5) 6) 5 0 (some 6)) 5 1 0) 0 2 (some 5)) 6 j = 0 := fun j => by rw [gi_sr, gi_si, if_neg (by decide), gi_sr, gi_zf, if_pos rfl]
  have T6l : zSl (zSpush (zSpush S9 13 0) 21 16) 6 = 16 := by
    have := zSl_new (zSpush S9 13 0) 21 16
    rw [p12] at this
    exact this
  generalize sr (si (sr (zfresh (zfresh σ11 5) 6) 5 0 (some 6)) 5 1 0) 0 2 (some 5) = σ16 at X14 G14 I14 T5 T5i T6i ⊢
  generalize zSpush (zSpush S9 13 0) 21 16 = S14 at p14 X14 T6l ⊢
  -- the plans
  refine mkP p14 (fun S19 σ19 B19 k19 P7 Z7 => ?_)
  have k19 : zSk S19 = 134 := k19
  intro σ21 e21 a22 e22 S22 eS22 σ23 e23
  rw [k19] at e22
  subst e21 e22 eS22 e23
  refine mkP k19 (fun S24 σ24 B24 k24 P134 Z134 => ?_)
  have k24 : zSk S24 = 261 := k24
  intro σ26 e26 σ27 e27 a28 e28 S28 eS28 σ29 e29
  rw [k24] at e28
  subst e26 e27 e28 eS28 e29
  have X19 : zNx 134 S19 σ19 S24 σ24 := (zNx_sr S19 σ19 6 _).tr B24.x
  have X24 : zNx 261 S24 σ24 S24 (si (sr σ24 0 7 (some 134)) 0 8 (-1)) := (zNx_sr S24 σ24 7 _).tr (zNx_si _ _ 8 _)
  have G19 : ∀ j, gr σ19 0 j = gr σ16 0 j := fun j => by rw [B19.r (by decide)]
  have G24 : ∀ j, gr σ24 0 j = gr (sr σ19 0 6 (some 7)) 0 j := fun j => by rw [B24.r (by decide)]
  have g6 : gr (zfresh (si (sr σ24 0 7 (some 134)) 0 8 (-1)) 261) 0 6 = some 7 := by
    rw [gr_zf, if_neg (by decide), gr_si, gr_sr, if_pos rfl, if_neg (by decide), G24, gr_sr, if_pos rfl, if_pos rfl]
  refine ⟨7, g6, ?_⟩
  have Pa := zPs_x (X19.tr (X24.mono (by decide))) (by decide) (by decide) P7
  have Za := zP0_x (X19.tr (X24.mono (by decide))) (by decide) (by decide) Z7
  have Pb := zPs_x X24 (by decide) (by decide) P134
  have G27 : ∀ j, gr (si (sr σ24 0 7 (some 134)) 0 8 (-1)) 0 j = gr (sr σ24 0 7 (some 134)) 0 j := fun j => by rw [gr_si]
  have I27 : gi (si (sr σ24 0 7 (some 134)) 0 8 (-1)) 0 8 = -1 := by rw [gi_si, if_pos rfl, if_pos rfl]
  generalize si (sr σ24 0 7 (some 134)) 0 8 (-1) = σ27 at X24 Pa Za Pb G27 I27 g6 ⊢
  -- the machines
  refine mkM k24 (by decide) Pa (zP0_B Za) (by decide) zPV_r00.2.2.2.2.1 (fun S31 σ31 B31 k31 M31 g31 K31 => ?_)
  have k31 : zSk S31 = 277 := k31
  intro σ33 e33 a34 e34 S34 eS34 σ35 e35
  rw [k31] at e34
  subst e33 e34 eS34 e35
  have G31 : ∀ j, gr σ31 0 j = gr σ27 0 j := fun j => by rw [B31.r (by decide)]
  have h6 : gr (sr σ31 0 3 (some 261)) 0 6 = some 7 := by
    rw [gr_zf, if_neg (by decide)] at g6
    rw [gr_sr, if_pos rfl, if_neg (by decide), G31]
    exact g6
  refine ⟨7, by rw [gr_zf, if_neg (by decide)]; exact h6, ?_⟩
  have X31 : zNx 277 S31 σ31 S31 (sr σ31 0 3 (some 261)) := zNx_sr S31 σ31 3 _
  have Y31 : zNx 261 S24 σ27 S31 (sr σ31 0 3 (some 261)) := B31.x.tr (X31.mono (by decide))
  refine mkM k31 (by decide) (zPs_x Y31 (by decide) (by decide) Pa) (zP0_B (zP0_x Y31 (by decide) (by decide) Za)) (by decide) zPV_r00.2.2.2.2.1 (fun S37 σ37 B37 k37 M37 g37 K37 => ?_)
  have k37 : zSk S37 = 293 := k37
  intro σ39 e39 a40 e40 S40 eS40 σ41 e41
  rw [k37] at e40
  subst e39 e40 eS40 e41
  have G37 : ∀ j, gr σ37 0 j = gr (sr σ31 0 3 (some 261)) 0 j := fun j => by rw [B37.r (by decide)]
  refine ⟨7, by rw [gr_zf, if_neg (by decide), gr_sr, if_pos rfl, if_neg (by decide), G37]; exact h6, ?_⟩
  have X37 : zNx 293 S37 σ37 S37 (sr σ37 0 4 (some 277)) := zNx_sr S37 σ37 4 _
  have Y37 : zNx 261 S24 σ27 S37 (sr σ37 0 4 (some 277)) := Y31.tr ((B37.x.mono (by decide)).tr (X37.mono (by decide)))
  refine mkH k37 (by decide) (zPs_x Y37 (by decide) (by decide) Pa) (zP0_B (zP0_x Y37 (by decide) (by decide) Za)) (fun S43 σ43 B43 k43 g43 l43 h43 z43 => ?_)
  have k43 : zSk S43 = 455 := k43
  intro σ45 e45
  subst e45
  have G43 : ∀ j, gr σ43 0 j = gr (sr σ37 0 4 (some 277)) 0 j := fun j => by rw [B43.r (by decide)]
  have E8 : zNx 455 S43 σ43 S43 (sr σ43 0 5 (some 293)) := zNx_sr S43 σ43 5 _
  have E7 : zNx 293 S37 σ37 S43 (sr σ43 0 5 (some 293)) := X37.tr (B43.x.tr (E8.mono (by decide)))
  have E6 : zNx 277 S31 σ31 S43 (sr σ43 0 5 (some 293)) := X31.tr (B37.x.tr (E7.mono (by decide)))
  have E5 : zNx 261 S24 σ27 S43 (sr σ43 0 5 (some 293)) := B31.x.tr (E6.mono (by decide))
  have E4 : zNx 134 S19 σ19 S43 (sr σ43 0 5 (some 293)) := X19.tr ((X24.mono (by decide)).tr (E5.mono (by decide)))
  have E3 : zNx 7 S14 σ16 S43 (sr σ43 0 5 (some 293)) := B19.x.tr (E4.mono (by decide))
  have E2 : zNx 5 S9 σ11 S43 (sr σ43 0 5 (some 293)) := X14.tr (E3.mono (by decide))
  have E1 : zNx 3 S3 σ3 S43 (sr σ43 0 5 (some 293)) := X6.tr (X9.tr (E2.mono (by decide)))
  refine hq S43 _ ⟨k43, ⟨?_, ?_, ?_, ?_, ?_, ?_, ?_, ?_⟩, ?_, ⟨?_, ?_, ?_⟩, ⟨?_, ?_⟩, ⟨?_, ?_, fun j => ?_, fun j => ?_⟩, ⟨?_, ?_⟩, ?_, ⟨?_, ?_, ?_⟩, ⟨?_, ?_⟩, ⟨?_, ?_, fun j => ?_, fun q hq2 => ?_⟩⟩
  · simp only [gr_sr, if_true, if_false, Nat.reduceEqDiff, G43, G37, G31, G27, G24, G19, G14, G9, G6]
  · simp only [gr_sr, if_true, if_false, Nat.reduceEqDiff, G43, G37, G31, G27, G24, G19, G14, G9, G6]
  · simp only [gr_sr, if_true, if_false, Nat.reduceEqDiff, G43, G37, G31, G27, G24, G19, G14, G9, G6]
  · simp only [gr_sr, if_true, if_false, Nat.reduceEqDiff, G43, G37, G31, G27, G24, G19, G14, G9, G6]
  · simp only [gr_sr, if_true, if_false, Nat.reduceEqDiff, G43, G37, G31, G27, G24, G19, G14, G9, G6]
  · simp only [gr_sr, if_true, if_false, Nat.reduceEqDiff, G43, G37, G31, G27, G24, G19, G14, G9, G6]
  · simp only [gr_sr, if_true, if_false, Nat.reduceEqDiff, G43, G37, G31, G27, G24, G19, G14, G9, G6]
  · simp only [gr_sr, if_true, if_false, Nat.reduceEqDiff, G43, G37, G31, G27, G24, G19, G14, G9, G6]
  · rw [gi_sr, B43.i (by decide), gi_sr, B37.i (by decide), gi_sr, B31.i (by decide)]; exact I27
  · rw [(E1 1 (by decide) (by decide)).2.1]; exact g3
  · rw [(E1 2 (by decide) (by decide)).1]; exact l3
  · rw [(E1 1 (by decide) (by decide)).2.2.1, z3]
  · rw [(E2 3 (by decide) (by decide)).2.1]; exact T3
  · rw [(E2 4 (by decide) (by decide)).2.1]; exact T4
  · rw [(E3 5 (by decide) (by decide)).2.1]; exact T5
  · rw [(E3 6 (by decide) (by decide)).1]; exact T6l
  · rw [(E3 5 (by decide) (by decide)).2.2.1]; exact T5i j
  · rw [(E3 6 (by decide) (by decide)).2.2.1]; exact T6i j
  · exact zPs_x E4 (by decide) (by decide) P7
  · exact zP0_x E4 (by decide) (by decide) Z7
  · exact zPs_x E5 (by decide) (by decide) Pb
  · rw [(E6 261 (by decide) (by decide)).2.1]; exact g31
  · exact zMs_c M31 (fun a h1 h2 => ⟨(E6 a (by omega) (by omega)).2.1, (E6 a (by omega) (by omega)).1⟩)
  · exact KM_o K31 (fun a h1 h2 => ⟨(E6 a (by omega) (by omega)).2.2.1, (E6 a (by omega) (by omega)).2.2.2⟩)
  · exact zMs_c M37 (fun a h1 h2 => ⟨(E7 a (by omega) (by omega)).2.1, (E7 a (by omega) (by omega)).1⟩)
  · exact KM_o K37 (fun a h1 h2 => ⟨(E7 a (by omega) (by omega)).2.2.1, (E7 a (by omega) (by omega)).2.2.2⟩)
  · rw [(E8 293 (by decide) (by decide)).2.1]; exact g43
  · exact l43
  · rw [(E8 293 (by decide) (by decide)).2.2.1]; exact z43 j
  · obtain ⟨f1, f2, f3⟩ := h43 q hq2
    exact ⟨by rw [(E8 294 (by decide) (by decide)).2.1]; exact f1, zMs_c f2 (fun a h1 h2 => ⟨(E8 a (by omega) (by omega)).2.1, rfl⟩), KM_o f3 (fun a h1 h2 => ⟨rfl, rfl⟩)⟩
