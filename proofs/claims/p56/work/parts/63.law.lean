/-! THE LAW -/
section QLAW
variable {L : Nat} {xs : Nat → Int32} {r r0 : Nat → Int32} {p p' : Nat}
theorem l_142 (hL : L ≤ 260) (R : qR0 L xs r0) {t : Nat} (I : qId L xs r0 r t) : ∀ (d i b : Nat) (S : zSp) (σ : zS) (s m : Nat) (h : Nat → Nat → Int32), i + d = qLn L xs → b < qLn L xs → (i = 0 ∧ b = 0 ∨ 1 ≤ i ∧ (slo (rTf r 0) (qLn L xs) 0 (-1, -1)).1 = (slo (rTf r 0) d i (nI b, rTf r 0 b)).1) → qW S σ r 0 p p' s m h → wL_law_142 L xs (d + 1) 0 (nI b) (nI i) S σ
  | 0, i, b, S, σ, s, m, h, hi, hb, inv, W => by
    have hLn := qLn_b L xs
    obtain ⟨-, -, e25, -⟩ := path_e (k := 0) R I (by omega)
    obtain ⟨z6, z19, z16, z5, z18, z27, z32⟩ := qR0_i R
    have io := I.2.2.2
    have e27 : r 27 = 0 := by rw [io 27 (by decide) (by decide) (by decide)]; exact z27
    have e32 : r 32 = 0 := by rw [io 32 (by decide) (by decide) (by decide)]; exact z32
    have e18 : r 18 = 0 := by rw [io 18 (by decide) (by decide) (by decide)]; exact z18
    have en : (r 25).toNatClampNeg = qLn L xs := by have := ncl (a := r 25) (by omega); omega
    have hs : (slo (rTf r 0) (qLn L xs) 0 (-1, -1)).1 = nI b := by
      rcases inv with ⟨h1, -⟩ | ⟨-, h2⟩
      · omega
      · exact h2
    rw [wL_law_142]
    refine l_lines hL ⟨fun _ => q_slowest0 W ?_, fun hx => absurd (nI_le (by omega) (by omega)) hx⟩
    rw [en, hs]
    exact ⟨fun _ => q_linesDone0 W ⟨fun _ => q_prints1 W ⟨fun _ => q_eventCount W ⟨fun _ => trivial, fun e => absurd e18 e⟩, fun e => absurd e32 e⟩, fun e => absurd e27 e⟩, fun e => absurd rfl e⟩
  | d + 1, i, b, S, σ, s, m, h, hi, hb, inv, W => by
    have hLn := qLn_b L xs
    obtain ⟨-, -, e25, -⟩ := path_e (k := 0) R I (by omega)
    have hbi := rTf_b W.w (q := 0) (k := i) (by decide) (by omega)
    have hbb := rTf_b W.w (q := 0) (k := b) (by decide) (by omega)
    rw [wL_law_142]
    refine l_lines hL ⟨fun hx => absurd hx (nI_ge (by omega) (by omega)), fun _ => l_isPath hL R I W (by omega) (fun S1 σ1 W1 => ⟨fun e => absurd e (by decide), fun _ => ?_⟩)⟩
    refine q_ticksFor W1 (k := i) (by omega) (by omega) (q_ticksFor W1 (k := b) (by omega) (by omega) ⟨fun hle x21 e21 => ?_, fun hle x22 e22 => ?_⟩)
    · rw [iI_le (by omega) (by omega)] at hle
      rw [nI_1] at e21
      subst e21
      refine l_142 hL R I d (i + 1) b S1 σ1 s m h (by omega) hb (Or.inr ⟨by omega, ?_⟩) W1
      rcases inv with ⟨h1, h2⟩ | ⟨h1, h2⟩
      · subst h1 h2
        rw [show qLn L xs = d + 1 by omega, slo, if_neg (by show ¬ rTf r 0 0 ≤ -1; omega)]
      · rw [h2, slo, if_pos hle]
    · rw [iI_le (by omega) (by omega)] at hle
      rw [nI_1] at e22
      subst e22
      refine l_142 hL R I d (i + 1) i S1 σ1 s m h (by omega) (by omega) (Or.inr ⟨by omega, ?_⟩) W1
      rcases inv with ⟨h1, h2⟩ | ⟨h1, h2⟩
      · subst h1 h2
        omega
      · rw [h2, slo, if_neg hle]
end QLAW
theorem cmp_00 : Op.cmpValue (FP.dcmp FP.dconst0 FP.dconst0) CmpOp.l = 0 := by decide +kernel
theorem law_all (L : Nat) (xs : Nat → Int32) (hL : L ≤ 260) : wL_law L xs (zsp zY0) zσ0 := by
  have hLn := qLn_b L xs
  have z : zSk (zsp zY0) = 0 := rfl
  intro a1 e1 S1 eS1 σ2 e2
  rw [z] at e1
  subst e1 eS1 e2
  refine mkX rfl (fun j => rfl) (fun S3 σ3 M => ?_)
  obtain ⟨W, I, hk⟩ := qW_0 M
  refine q_positions W ⟨fun _ => ?_, fun e => absurd rfl e⟩
  refine q_time W ⟨fun _ => ?_, fun e => absurd rfl e⟩
  refine q_sender W ⟨fun _ => ?_, fun e => absurd rfl e⟩
  refine q_slowest0 W ⟨fun _ => ?_, fun e => absurd rfl e⟩
  refine q_meanOffset1 W rfl ⟨fun _ => ?_, fun e => absurd cmp_00 e⟩
  refine l_cell hL (k := 7) (by decide) rfl (l_part (n := 990) rfl (by decide) (by decide) (fun x19 e19 => ?_))
  have e19' : x19 = nI (qR1 L xs) := by
    rw [e19, show (10 : Int32) = nI 10 from rfl, nI_pl]
    rfl
  subst e19'
  refine l_text hL (by omega) rfl (fun S20 σ20 t H20 X20 => ?_)
  have W20 := W.o (X20.q (by omega))
  have I20 : gi σ20 1 1 = 0 := by rw [(X20.2 1 (by omega)).2.2.1]; exact I
  refine l_load W20 I20 H20 (fun S22 σ22 r0 R W22 => ?_)
  have r0e := R.1.1
  have r25 := R.2.2.1
  have r26 : r0 26 = 0 := by rw [R.2.2.2.1 26 (by decide) (by decide)]; rfl
  refine l_lines hL ⟨fun _ => ?_, fun e => absurd rfl e⟩
  refine q_positions W22 (l_positions hL ⟨fun _ => ?_, fun e => absurd r0e e⟩)
  refine q_lineCount W22 (Or.inl ⟨rfl, rfl⟩) (l_lines hL ⟨fun _ => ?_, fun e => absurd r25 e⟩)
  refine q_lineCount W22 (Or.inr ⟨rfl, rfl⟩) ⟨fun _ => ?_, fun e => absurd r26 e⟩
  refine l_refused hL W22 R ⟨fun e => absurd e (by decide), fun _ => ?_⟩
  refine l_wheels hL R W22 (fun t' r' σ' s' m' h' _ W' I' => ⟨fun e => absurd e (by decide), fun _ => ⟨qLn L xs + 1, by omega, ?_⟩⟩)
  exact l_142 hL R I' (qLn L xs) 0 0 S22 σ' s' m' h' (by omega) (by omega) (Or.inl ⟨rfl, rfl⟩) W'
