/-! CALLS: load -/
theorem sI_zmr {σ : zS} {f : Nat → Int32} {w : Int64} {R g : zRow} : sI (zmr σ f w R) 457 g = zmr σ f w g := by
  refine zS_ext2 (fun a i => ?_) rfl (fun a i => rfl) rfl
  rw [gi_sI, gi_zmr, gi_zmr]
  by_cases h : a = 457
  · subst h; rfl
  · rw [if_neg h]
    by_cases h4 : a = 455
    · rw [if_pos h4, if_pos h4]
    · rw [if_neg h4, if_neg h4, if_neg h, if_neg h]
theorem M_load {ln : Nat → Nat} {τ : zS} {c : Nat → Int32} {n : Nat} (G : zMg (gr τ) ln) (T : zTb τ ln c n) (h13 : gi τ 455 13 = nI n) {Q : Int32 → zS → Prop} (hE : ∀ e, pTx c n (n + 1) true r00 0 0 = .inl e → ∀ τ', gr τ' = gr τ → (∀ a, a ≠ 455 → a ≠ 457 → gi τ' a = gi τ a) → (∀ a, a ≠ 455 → gl τ' a = gl τ a) → (∀ j, ¬ (j = 0 ∨ (13 ≤ j ∧ j ≤ 21)) → gi τ' 455 j = gi τ 455 j) → gi τ' 455 0 = 1 → gi τ' 455 13 = 0 → gi τ' 455 14 = nI e → Q 0 τ') (hO : ∀ r, pTx c n (n + 1) true r00 0 0 = .inr r → ∀ τ', gr τ' = gr τ → (∀ a, a ≠ 455 → a ≠ 456 → a ≠ 457 → gi τ' a = gi τ a) → (∀ a, a ≠ 455 → gl τ' a = gl τ a) → (∀ j, ¬ (j = 0 ∨ j = 5 ∨ (13 ≤ j ∧ j ≤ 21)) → gi τ' 455 j = gi τ 455 j) → gi τ' 455 0 = 0 → gi τ' 455 13 = 0 → gi τ' 455 14 = -1 → gi τ' 455 5 = 0 → zcg r (gi τ' 456) → Q (r 25 + r 26) τ') : wX12_load ln τ 455 Q := by
  have hn := T.1
  have g1 := G.1.1
  have g2 := G.1.2.1
  have l1 := G.2.1
  have l2 := G.2.2.1
  have e0 : si τ 455 0 0 = zmr τ (zu (gi τ 455) 0 0) (gl τ 455 22) (gi τ 457) := (congrArg (fun x => si x 455 0 0) (zmr_self (σ := τ)).symm).trans (si_zmr_f 0 0)
  intro σ1 e1
  refine ⟨457, by rw [e1]; exact g2, m_defaults l2 (fun g hg σ4 e4 σ5 e5 σ6 e6 σ7 e7 σ8 e8 => ?_)⟩
  rw [e1, e0, sI_zmr, si_zmr_f] at e4
  subst e4
  rw [si_zmr_f] at e5
  subst e5
  rw [si_zmr_f] at e6
  subst e6
  rw [si_zmr_f] at e7
  subst e7
  rw [si_zmr_f] at e8
  subst e8
  have F : ∀ j, ¬ (j = 0 ∨ j = 16 ∨ j = 19 ∨ j = 20 ∨ j = 21 ∨ j = 14) → zu (zu (zu (zu (zu (zu (gi τ 455) 0 0) 16 0) 19 0) 20 1) 21 0) 14 (-1) j = gi τ 455 j := fun j hj => by rw [zu_ne (by omega), zu_ne (by omega), zu_ne (by omega), zu_ne (by omega), zu_ne (by omega), zu_ne (by omega)]
  have F0 : zu (zu (zu (zu (zu (zu (gi τ 455) 0 0) 16 0) 19 0) 20 1) 21 0) 14 (-1) 0 = 0 := rfl
  have F16 : zu (zu (zu (zu (zu (zu (gi τ 455) 0 0) 16 0) 19 0) 20 1) 21 0) 14 (-1) 16 = 0 := rfl
  have F19 : zu (zu (zu (zu (zu (zu (gi τ 455) 0 0) 16 0) 19 0) 20 1) 21 0) 14 (-1) 19 = 0 := rfl
  have F20 : zu (zu (zu (zu (zu (zu (gi τ 455) 0 0) 16 0) 19 0) 20 1) 21 0) 14 (-1) 20 = 1 := rfl
  have F21 : zu (zu (zu (zu (zu (zu (gi τ 455) 0 0) 16 0) 19 0) 20 1) 21 0) 14 (-1) 21 = 0 := rfl
  have F14 : zu (zu (zu (zu (zu (zu (gi τ 455) 0 0) 16 0) 19 0) 20 1) 21 0) 14 (-1) 14 = -1 := rfl
  generalize zu (zu (zu (zu (zu (zu (gi τ 455) 0 0) 16 0) 19 0) 20 1) 21 0) 14 (-1) = f at F F0 F16 F19 F20 F21 F14 ⊢
  refine m_next T (q := 0) (by decide) (by rw [F 13 (by decide)]; exact h13) (by rw [F16]; rfl) (fun f' w' m1 t1 => ⟨n + 1 + 1, ?_⟩)
  have a14 : f' 14 = -1 := by rw [m1 14 (by decide)]; exact F14
  refine m_load41 (f0 := f') T g2 l2 (n + 1) 0 0 true r00 f' w' g (by omega) (by omega) zPV_r00 (fun _ => zFst_r00) (fun _ _ => rfl) rfl (by rw [m1 13 (by decide), F 13 (by decide)]; exact h13) (by rw [m1 19 (by decide), F19]; rfl) (by rw [m1 20 (by decide), F20]; rfl) (by rw [m1 21 (by decide)]; exact F21) t1 hg (fun e he f2 w2 R2 m2 b21 b14 σ2 s2 => ?_) (fun r hr f2 w2 R2 m2 b21 b14 hR σ2 s2 => ?_)
  · rw [si_zmr_f] at s2
    subst s2
    rw [gi_zmr_f, zu_ne (by decide), b21]
    refine ⟨fun h => absurd h (by decide), fun _ σ3 s3 => ?_⟩
    rw [si_zmr_f] at s3
    subst s3
    refine hE e he _ gr_zmr (fun a x1 x2 => gi_zmr_o x1 x2) (fun a x1 => gl_zmr_o x1) (fun j hj => ?_) ?_ ?_ ?_
    · rw [gi_zmr_f, zu_ne (by omega), zu_ne (by omega), m2 j (by omega), m1 j (by omega), F j (by omega)]
    · rw [gi_zmr_f, zu_self]
    · rw [gi_zmr_f, zu_ne (by decide), zu_self]
    · rw [gi_zmr_f, zu_ne (by decide), zu_ne (by decide)]; exact b14
  · rw [si_zmr_f] at s2
    subst s2
    rw [gi_zmr_f, zu_ne (by decide), b21]
    refine ⟨fun _ => ⟨457, g2, 456, g1, M_copies (by decide) l2 l1 (fun σ5 s5 => ⟨456, by rw [s5]; exact g1, ?_⟩)⟩, fun h => absurd rfl h⟩
    rw [l1]
    refine ⟨vq25, 456, by rw [s5]; exact g1, ?_⟩
    rw [l1]
    refine ⟨vq26, ?_⟩
    have row : gi σ5 456 = fun k => if k < 4763 then R2 k else gi τ 456 k := by
      rw [s5, si_out _ _ (by decide), sI_at, gi_zmr_r, gi_zmr_o (by decide) (by decide)]
    have hrow : zcg r (gi σ5 456) := fun k hk => by
      rw [row]
      show (if k < 4763 then R2 k else gi τ 456 k) = r k
      rw [if_pos hk]
      exact hR k hk
    have c25 : gi σ5 456 (25 : Int32).toNatClampNeg = r 25 := hrow 25 (by decide)
    have c26 : gi σ5 456 (26 : Int32).toNatClampNeg = r 26 := hrow 26 (by decide)
    rw [c25, c26]
    have e455 : gi σ5 455 = zu (zu f2 13 0) 5 0 := by
      rw [s5, si_at, sI_out _ _ (by decide), gi_zmr_f]
    refine hO r hr σ5 (by rw [s5]; rfl) (fun a x1 x2 x3 => by rw [s5, si_out _ _ x1, sI_out _ _ x2, gi_zmr_o x1 x3]) (fun a x1 => by rw [s5]; exact gl_zmr_o (f := zu f2 13 0) (w := w2) (R := R2) x1) (fun j hj => ?_) ?_ ?_ ?_ ?_ hrow
    · rw [e455, zu_ne (by omega), zu_ne (by omega), m2 j (by omega), m1 j (by omega), F j (by omega)]
    · rw [e455, zu_ne (by decide), zu_ne (by decide), m2 0 (by decide), m1 0 (by decide)]; exact F0
    · rw [e455, zu_ne (by decide), zu_self]
    · rw [e455, zu_ne (by decide), zu_ne (by decide), b14]; exact a14
    · rw [e455, zu_self]
theorem L_load : zLoad := by
  intro S σ N W K hK
  obtain ⟨p, p', s, m, h, W⟩ := W
  have hpb := W.pb'
  have hpp := W.2.1.1
  have PS' := W.ps'
  have ST := W.st
  have MG := W.mg
  have l463 := W.l463
  have g07 := W.2.1.2.2.1
  have g06 := W.gp
  obtain ⟨n, i1, i2, i3, i4⟩ := W.2.2.2.2.2.2.1
  have G : zTg (gr σ) (zSl S) := ⟨ST.2.1.1, ST.2.1.2.1, ST.2.1.2.2, ST.2.2.1.1⟩
  have T : zTc σ (gi σ 2) n := ⟨i1, i2, rfl, fun k hk => (i4 k hk).1⟩
  generalize gi σ 2 = c at T i4
  have TB : ∀ τ : zS, gr τ 455 12 = gr σ 455 12 → gi τ 462 = gi σ 462 → zTb τ (zSl S) c n := fun τ x1 x2 => ⟨i1, by rw [x1]; exact MG.1.2.2.2.2.2.2.2, MG.2.2.2.2.2.2.2, fun k hk => by rw [x2]; exact i4 k hk⟩
  unfold wL_load
  refine ⟨3, ST.1.2.1, p', g07, c_read (by omega) G T PS' (fun e he f3 f4 F σ5 e5 => ?_) (fun r hr f3 f4 F P U σ5 e5 => ?_)⟩
  · refine ⟨1, by rw [e5]; exact ST.1.1, fun σ7 e7 => ?_⟩
    have hb : e ≤ n + 9 := pTx_e _ _ _ _ _ zPV_r00 (fun _ => zFst_r00) (by omega) he
    have z8 : gi σ7 0 8 = nI e := by rw [e7, si_out _ _ (by decide), e5, si_at, zu_self]
    have zo : ∀ a, ¬ (a = 0 ∨ a = 1 ∨ a = 3 ∨ a = 4 ∨ (p' ≤ a ∧ a < p' + 127)) → gi σ7 a = gi σ a := fun a ha => by
      rw [e7, si_out _ _ (by omega), e5, si_out _ _ (by omega), gi_zpc_o (by omega) (by omega) (by omega)]
    have z1 : gi σ7 1 1 = 0 := by rw [e7, si_at, zu_self]
    have zr : gr σ7 = gr σ := by rw [e7, e5]; rfl
    have zl : gl σ7 = gl σ := by rw [e7, e5]; rfl
    refine ⟨fun hx => ?_, fun _ => ⟨rfl, ?_⟩⟩
    · rw [z8, neq, nI_toInt (by omega)] at hx
      have : (-1 : Int32).toInt = -1 := rfl
      omega
    · refine M_load (by rw [zr]; exact MG) (TB σ7 (by rw [zr]) (zo 462 (by omega))) (by rw [zo 455 (by omega)]; exact i3) (fun e' he' τ' t1 t2 t3 t4 t5 t6 t7 => ?_) (fun r' hr' => ?_)
      · rw [he] at he'
        cases he'
        refine hK 1 0 τ' ⟨p, p', s, m, h, zWp_err W (t1.trans zr) (fun a ha => (t2 a (by omega) (by omega)).trans (zo a (by omega))) (fun a ha => by rw [t3 a (by omega), zl]) ?_ t6 ?_ ?_ ?_⟩ t5 (fun hx => absurd hx (by decide))
        · rw [t2 1 (by decide) (by decide)]; exact z1
        · rw [t4 5 (by decide), zo 455 (by omega)]
        · rw [t4 11 (by decide), zo 455 (by omega)]
        · rw [t7, t2 0 (by decide) (by decide)]; exact z8
      · rw [he] at hr'
        cases hr'
  · obtain ⟨o, V⟩ := pTx_ok _ _ _ _ _ zPV_r00 (fun _ => zFst_r00) hr
    refine ⟨1, by rw [e5]; exact ST.1.1, fun σ7 e7 => ?_⟩
    have z8 : gi σ7 0 8 = -1 := by rw [e7, si_out _ _ (by decide), e5, si_at, zu_self]
    have zF : ∀ k, k < 127 → gi σ7 (p' + k) = F k := fun k hk => by
      rw [e7, si_out _ _ (by omega), e5, si_out _ _ (by omega), gi_zpc_k (by omega) rfl hk]
    have zo : ∀ a, ¬ (a = 0 ∨ a = 1 ∨ a = 3 ∨ a = 4 ∨ (p' ≤ a ∧ a < p' + 127)) → gi σ7 a = gi σ a := fun a ha => by
      rw [e7, si_out _ _ (by omega), e5, si_out _ _ (by omega), gi_zpc_o (by omega) (by omega) (by omega)]
    have z1 : gi σ7 1 1 = 0 := by rw [e7, si_at, zu_self]
    have zr : gr σ7 = gr σ := by rw [e7, e5]; rfl
    have zl : gl σ7 = gl σ := by rw [e7, e5]; rfl
    refine ⟨fun _ => ⟨p', by rw [zr]; exact g07, p, by rw [zr]; exact g06, fun σ10 e10 σ11 e11 => ?_⟩, fun hx => absurd z8 hx⟩
    have r11 : gr σ11 = gr (sr (sr σ 0 7 (some p)) 0 6 (some p')) := by
      rw [e11, e10]
      funext a j
      rw [gr_sr, gr_sr, gr_sr, gr_sr, zr]
    have i11 : gi σ11 = gi σ7 := by rw [e11, e10]; rfl
    have l11 : gl σ11 = gl σ := by rw [e11, e10]; exact zl
    have eg' : ∀ a j, ¬ (a = 0 ∧ (j = 6 ∨ j = 7)) → ¬ (a = 261 ∧ j = 0) → gr σ11 a j = gr σ a j := fun a j y1 y2 => by
      rw [r11, gr_sr]
      by_cases z2 : a = 0
      · rw [if_pos z2, if_neg (by omega), gr_sr, if_pos z2, if_neg (by omega)]
      · rw [if_neg z2, gr_sr, if_neg z2]
    have ST11 := zST_new ST eg'
    have PS11 : zPs (gr σ11) (zSl S) p' := by
      rcases hpp with ⟨_, e⟩ | ⟨_, e⟩
      · rw [e]; exact ST11.2.2.2.2.2.1.2
      · rw [e]; exact ST11.2.2.2.2.2.1.1
    have P0 := P
    obtain ⟨⟨a0, a1, a2, a3, a4⟩, ⟨b1, b2⟩, d, -⟩ := P
    obtain ⟨d01, d02, d03⟩ := d 0 (by decide)
    obtain ⟨d11, d12, d13⟩ := d 1 (by decide)
    have BG : zBg σ11 p' r := by
      unfold zBg
      have eF0 : gi σ7 p' = F 0 := zF 0 (by decide)
      rw [i11, eF0, zF 3 (by decide), zF 65 (by decide), zF 1 (by decide), zF 2 (by decide)]
      exact ⟨a2, ⟨d01, d02⟩, ⟨d11, d12⟩, b1, b2⟩
    have cap := W.2.2.2.2.1 261 (Or.inl rfl)
    refine ⟨261, by rw [eg' _ _ (by omega) (by omega)]; exact ST.1.2.2.2.1, p', by rw [r11, gr_sr, if_pos rfl, if_pos rfl], C_begin (ST11.2.2.2.2.1 261 (Or.inl rfl)) (by omega) PS11 (by rw [i11, zo _ (by omega)]; exact cap.1) (by rw [i11, zo _ (by omega)]; exact cap.2) BG V.2.1 V.2.2.2.2.1 (fun σ14 K14 F14 => ?_)⟩
    have r14 : gr σ14 = gr (sr (sr (sr σ 0 7 (some p)) 0 6 (some p')) 261 0 (some p')) := by
      rw [F14.1]
      funext a j
      rw [gr_sr, gr_sr, r11]
    have o14 : ∀ a j, a ≠ 261 → gr σ14 a j = gr σ11 a j := fun a j ha => by rw [F14.1, gr_sr, if_neg ha]
    refine ⟨293, by rw [o14 _ _ (by omega), eg' _ _ (by omega) (by omega)]; exact ST.1.2.2.2.2.2, fun σ16 e16 => ?_⟩
    have r16 : gr σ16 = gr σ14 := by rw [e16]; rfl
    have l16 : gl σ16 = gl σ14 := by rw [e16]; rfl
    have g6 : gr σ16 0 6 = some p' := by rw [r16, o14 _ _ (by omega), r11, gr_sr, if_pos rfl, if_pos rfl]
    have io : ∀ a, ¬ (a = 0 ∨ a = 1 ∨ a = 3 ∨ a = 4 ∨ (p' ≤ a ∧ a < p' + 127) ∨ (261 ≤ a ∧ a < 277) ∨ a = 293) → gi σ16 a = gi σ a := fun a ha => by
      rw [e16, si_out _ _ (by omega), (F14.2.2 a (by omega)).1, i11, zo a (by omega)]
    have iF : ∀ k, k < 127 → gi σ16 (p' + k) = F k := fun k hk => by
      rw [e16, si_out _ _ (by omega), (F14.2.2 _ (by omega)).1, i11, zF k hk]
    have i0 : gi σ16 0 = gi σ7 0 := by rw [e16, si_out _ _ (by decide), (F14.2.2 0 (by omega)).1, i11]
    have i1' : gi σ16 1 = gi σ7 1 := by rw [e16, si_out _ _ (by decide), (F14.2.2 1 (by omega)).1, i11]
    have i293 : gi σ16 293 = zu (gi σ 293) 2 0 := by rw [e16, si_at, (F14.2.2 293 (by omega)).1, i11, zo _ (by omega)]
    have K16 : KM σ16 261 r := KM_o K14 (fun a x1 x2 => ⟨by rw [e16, si_out _ _ (by omega)], by rw [l16]⟩)
    refine ⟨p', g6, p' + 3, by rw [r16, o14 _ _ (by omega)]; exact PS11.2.1.1, p', g6, p' + 65, by rw [r16, o14 _ _ (by omega)]; exact PS11.2.1.2, ?_⟩
    rw [iF 3 (by decide), iF 65 (by decide), d03, d13]
    intro x6 e6
    rw [l463]
    refine ⟨vp01, fun σ8 e8 => ?_⟩
    have r8 : gr σ8 = gr σ16 := by rw [e8]; rfl
    have i8 : gi σ8 = gi σ16 := by rw [e8]; rfl
    have l8 : ∀ a, a ≠ 463 → gl σ8 a = gl σ16 a := fun a ha => by
      rw [e8]
      funext j
      rw [gl_sl, if_neg ha]
    have o8 : ∀ j, gr σ8 455 j = gr σ 455 j := fun j => by rw [r8, r16, o14 _ _ (by omega), eg' _ _ (by omega) (by omega)]
    have MG8 : zMg (gr σ8) (zSl S) := by
      unfold zMg
      rw [o8, o8, o8, o8, o8, o8, o8, o8]
      exact MG
    refine M_load MG8 (TB σ8 (o8 12) (by rw [i8, io 462 (by omega)])) (by rw [i8, io 455 (by omega)]; exact i3) (fun e' he' => ?_) (fun r' hr' τ' t1 t2 t3 t4 t5 t6 t7 t8 t9 => ?_)
    · rw [hr] at he'
      cases he'
    · rw [hr] at hr'
      cases hr'
      refine hK 0 _ τ' ⟨p', p, s, 0, h, zWp_new W V P0 U (by rw [t1, r8, r16, r14]) (fun k hk => by rw [t2 _ (by omega) (by omega) (by omega), i8, iF k hk]) (KM_o K16 (fun a x1 x2 => ⟨by rw [t2 a (by omega) (by omega) (by omega), i8], by rw [t3 a (by omega), l8 a (by omega)]⟩)) t9 (fun a ha => by rw [t2 a (by omega) (by omega) (by omega), i8, io a (by omega)]) ?_ t7 ?_ t6 t8 ?_ ?_ ?_⟩ t5 (fun _ => ?_)
      · rw [t2 0 (by omega) (by omega) (by omega), i8, i0]; exact z8
      · rw [t2 1 (by omega) (by omega) (by omega), i8, i1']; exact z1
      · rw [t4 11 (by decide), i8, io 455 (by omega)]
      · rw [t2 293 (by omega) (by omega) (by omega), i8, i293, zu_ne (by decide)]
      · rw [t2 293 (by omega) (by omega) (by omega), i8, i293, zu_self]
      · rw [t3 463 (by omega), e8, gl_sl, if_pos rfl]
        show x6 = _
        rw [e6]
