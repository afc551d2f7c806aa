-- TypeWheelTelegraphLaw.law([I)Z
def wL_law_2768 (L : Nat) (xs : Nat → Int32) (kb28 : Nat → Nat → Nat → Nat → Int32 → zSp → zS → Prop) (t1 : Nat) (t2 : Nat) (t3 : Nat) (t4 : Nat) (v5 : Int32) (S : zSp) (σ : zS) : Prop := ∀ x1 : Int32, x1 = v5 + 6 → kb28 t1 t2 t3 t4 x1 S σ
def wL_law_272 (L : Nat) (xs : Nat → Int32) (kb28 : Nat → Nat → Nat → Nat → Int32 → zSp → zS → Prop) (t1 : Nat) (t2 : Nat) (t3 : Nat) (t4 : Nat) (v5 : Int32) (S : zSp) (σ : zS) : Prop := ∀ x1 : Int32, x1 = v5 + 1 → vp_in x1 L ∧ ∀ x3 : Int32, x3 = v5 + 2 → vp_in x3 L ∧ ∀ x5 : Int32, x5 = v5 + 3 → vp_in x5 L ∧ ∀ x7 : Int32, x7 = v5 + 4 → vp_in x7 L ∧ ∀ x9 : Int32, x9 = v5 + 5 → vp_in x9 L ∧ ∀ x11 : Int32, x11 = xs x9.toNatClampNeg → ∀ x12 : Int32, x12 = xs x7.toNatClampNeg → ∀ x13 : Int32, x13 = xs x5.toNatClampNeg → ∀ x14 : Int32, x14 = xs x3.toNatClampNeg → ∀ x15 : Int32, x15 = xs x1.toNatClampNeg → wL_append (zSl S) σ t1 x15 x14 x13 x12 x11 t3 (fun r17 σ16 => ∀ x18 : Int32, x18 = v5 + 1 → vp_in x18 L ∧ ∀ x20 : Int32, x20 = v5 + 2 → vp_in x20 L ∧ ∀ x22 : Int32, x22 = v5 + 3 → vp_in x22 L ∧ ∀ x24 : Int32, x24 = v5 + 4 → vp_in x24 L ∧ ∀ x26 : Int32, x26 = v5 + 5 → vp_in x26 L ∧ ∀ x28 : Int32, x28 = xs x26.toNatClampNeg → ∀ x29 : Int32, x29 = xs x24.toNatClampNeg → ∀ x30 : Int32, x30 = xs x22.toNatClampNeg → ∀ x31 : Int32, x31 = xs x20.toNatClampNeg → ∀ x32 : Int32, x32 = xs x18.toNatClampNeg → wX12_append (zSl S) σ16 t2 x32 x31 x30 x29 x28 (fun r34 σ33 => wX12_thrown (zSl S) σ33 t2 (fun r36 σ35 => ((r36 = r17 → ((r17 = 0 → vp_in (0 : Int32) ((zSl S) t3) ∧ (((lg_cmp (gl σ35 t3 (0 : Int32).toNatClampNeg) r34.toInt64) = 0 → wL_law_2768 L xs kb28 t1 t2 t3 t4 v5 S σ35) ∧ (¬ (lg_cmp (gl σ35 t3 (0 : Int32).toNatClampNeg) r34.toInt64) = 0 → False))) ∧ (¬ r17 = 0 → wL_law_2768 L xs kb28 t1 t2 t3 t4 v5 S σ35))) ∧ (¬ r36 = r17 → False)))))
def wL_law_376 (L : Nat) (xs : Nat → Int32) (kb28 : Nat → Nat → Nat → Nat → Int32 → zSp → zS → Prop) (t1 : Nat) (t2 : Nat) (t3 : Nat) (t4 : Nat) (v5 : Int32) (S : zSp) (σ : zS) : Prop := ∀ x1 : Int32, x1 = v5 + 1 → vp_in x1 L ∧ ∀ x3 : Int32, x3 = xs x1.toNatClampNeg → wL_truncate (zSl S) σ t1 x3 (fun r5 σ4 => ∀ x6 : Int32, x6 = v5 + 1 → vp_in x6 L ∧ ∀ x8 : Int32, x8 = xs x6.toNatClampNeg → wX12_truncate (zSl S) σ4 t2 x8 (fun σ9 => wX12_thrown (zSl S) σ9 t2 (fun r11 σ10 => ((r11 = r5 → wL_law_2768 L xs kb28 t1 t2 t3 t4 v5 S σ10) ∧ (¬ r11 = r5 → False)))))
def wL_law_412 (L : Nat) (xs : Nat → Int32) (kb28 : Nat → Nat → Nat → Nat → Int32 → zSp → zS → Prop) (t1 : Nat) (t2 : Nat) (t3 : Nat) (t4 : Nat) (v5 : Int32) (S : zSp) (σ : zS) : Prop := wL_load (zSl S) σ t1 t3 (fun r2 σ1 => wX12_load (zSl S) σ1 t2 (fun r4 σ3 => wX12_thrown (zSl S) σ3 t2 (fun r6 σ5 => ((r6 = r2 → ((r2 = 0 → vp_in (0 : Int32) ((zSl S) t3) ∧ (((lg_cmp (gl σ5 t3 (0 : Int32).toNatClampNeg) r4.toInt64) = 0 → wL_law_2768 L xs kb28 t1 t2 t3 t4 v5 S σ5) ∧ (¬ (lg_cmp (gl σ5 t3 (0 : Int32).toNatClampNeg) r4.toInt64) = 0 → False))) ∧ (¬ r2 = 0 → wL_law_2768 L xs kb28 t1 t2 t3 t4 v5 S σ5))) ∧ (¬ r6 = r2 → False)))))
def wL_law_456 (L : Nat) (xs : Nat → Int32) (kb28 : Nat → Nat → Nat → Nat → Int32 → zSp → zS → Prop) (t1 : Nat) (t2 : Nat) (t3 : Nat) (t4 : Nat) (v5 : Int32) (S : zSp) (σ : zS) : Prop := wX11_errorOffset (zSl S) σ t1 (fun r2 σ1 => wX12_errorOffset (zSl S) σ1 t2 (fun r4 σ3 => ((r2 = r4 → wL_law_2768 L xs kb28 t1 t2 t3 t4 v5 S σ3) ∧ (¬ r2 = r4 → False))))
def wL_law_469 (L : Nat) (xs : Nat → Int32) (kb28 : Nat → Nat → Nat → Nat → Int32 → zSp → zS → Prop) (t1 : Nat) (t2 : Nat) (t3 : Nat) (t4 : Nat) (v5 : Int32) (S : zSp) (σ : zS) : Prop := wX11_positions (zSl S) σ t1 (fun r2 σ1 => wX12_positions (zSl S) σ1 t2 (fun r4 σ3 => ((r2 = r4 → wL_law_2768 L xs kb28 t1 t2 t3 t4 v5 S σ3) ∧ (¬ r2 = r4 → False))))
def wL_law_482 (L : Nat) (xs : Nat → Int32) (kb28 : Nat → Nat → Nat → Nat → Int32 → zSp → zS → Prop) (t1 : Nat) (t2 : Nat) (t3 : Nat) (t4 : Nat) (v5 : Int32) (S : zSp) (σ : zS) : Prop := wX11_time (zSl S) σ t1 (fun r2 σ1 => wX12_time (zSl S) σ1 t2 (fun r4 σ3 => ((r2 = r4 → wL_law_2768 L xs kb28 t1 t2 t3 t4 v5 S σ3) ∧ (¬ r2 = r4 → False))))
def wL_law_495 (L : Nat) (xs : Nat → Int32) (kb28 : Nat → Nat → Nat → Nat → Int32 → zSp → zS → Prop) (t1 : Nat) (t2 : Nat) (t3 : Nat) (t4 : Nat) (v5 : Int32) (S : zSp) (σ : zS) : Prop := ∀ x1 : Int32, x1 = v5 + 1 → vp_in x1 L ∧ ∀ x3 : Int32, x3 = xs x1.toNatClampNeg → wL_phase (zSl S) σ t1 x3 t3 (fun r5 σ4 => ∀ x6 : Int32, x6 = v5 + 1 → vp_in x6 L ∧ ∀ x8 : Int32, x8 = xs x6.toNatClampNeg → wX12_phase (zSl S) σ4 t2 x8 (fun r10 σ9 => wX12_thrown (zSl S) σ9 t2 (fun r12 σ11 => ((r12 = r5 → ((r5 = 0 → vp_in (0 : Int32) ((zSl S) t3) ∧ (((lg_cmp (gl σ11 t3 (0 : Int32).toNatClampNeg) r10.toInt64) = 0 → wL_law_2768 L xs kb28 t1 t2 t3 t4 v5 S σ11) ∧ (¬ (lg_cmp (gl σ11 t3 (0 : Int32).toNatClampNeg) r10.toInt64) = 0 → False))) ∧ (¬ r5 = 0 → wL_law_2768 L xs kb28 t1 t2 t3 t4 v5 S σ11))) ∧ (¬ r12 = r5 → False)))))
def wL_law_551 (L : Nat) (xs : Nat → Int32) (kb28 : Nat → Nat → Nat → Nat → Int32 → zSp → zS → Prop) (t1 : Nat) (t2 : Nat) (t3 : Nat) (t4 : Nat) (v5 : Int32) (S : zSp) (σ : zS) : Prop := ∀ x1 : Int32, x1 = v5 + 1 → vp_in x1 L ∧ ∀ x3 : Int32, x3 = xs x1.toNatClampNeg → wL_rate (zSl S) σ t1 x3 t3 (fun r5 σ4 => ∀ x6 : Int32, x6 = v5 + 1 → vp_in x6 L ∧ ∀ x8 : Int32, x8 = xs x6.toNatClampNeg → wX12_rate (zSl S) σ4 t2 x8 (fun r10 σ9 => wX12_thrown (zSl S) σ9 t2 (fun r12 σ11 => ((r12 = r5 → ((r5 = 0 → vp_in (0 : Int32) ((zSl S) t3) ∧ (((lg_cmp (gl σ11 t3 (0 : Int32).toNatClampNeg) r10.toInt64) = 0 → wL_law_2768 L xs kb28 t1 t2 t3 t4 v5 S σ11) ∧ (¬ (lg_cmp (gl σ11 t3 (0 : Int32).toNatClampNeg) r10.toInt64) = 0 → False))) ∧ (¬ r5 = 0 → wL_law_2768 L xs kb28 t1 t2 t3 t4 v5 S σ11))) ∧ (¬ r12 = r5 → False)))))
def wL_law_607 (L : Nat) (xs : Nat → Int32) (kb28 : Nat → Nat → Nat → Nat → Int32 → zSp → zS → Prop) (t1 : Nat) (t2 : Nat) (t3 : Nat) (t4 : Nat) (v5 : Int32) (S : zSp) (σ : zS) : Prop := ∀ x1 : Int32, x1 = v5 + 1 → vp_in x1 L ∧ ∀ x3 : Int32, x3 = xs x1.toNatClampNeg → wL_facing (zSl S) σ t1 x3 t3 (fun r5 σ4 => ∀ x6 : Int32, x6 = v5 + 1 → vp_in x6 L ∧ ∀ x8 : Int32, x8 = xs x6.toNatClampNeg → wX12_facing (zSl S) σ4 t2 x8 (fun r10 σ9 => wX12_thrown (zSl S) σ9 t2 (fun r12 σ11 => ((r12 = r5 → ((r5 = 0 → vp_in (0 : Int32) ((zSl S) t3) ∧ (((lg_cmp (gl σ11 t3 (0 : Int32).toNatClampNeg) r10.toInt64) = 0 → wL_law_2768 L xs kb28 t1 t2 t3 t4 v5 S σ11) ∧ (¬ (lg_cmp (gl σ11 t3 (0 : Int32).toNatClampNeg) r10.toInt64) = 0 → False))) ∧ (¬ r5 = 0 → wL_law_2768 L xs kb28 t1 t2 t3 t4 v5 S σ11))) ∧ (¬ r12 = r5 → False)))))
def wL_law_711 (L : Nat) (xs : Nat → Int32) (kb28 : Nat → Nat → Nat → Nat → Int32 → zSp → zS → Prop) (t1 : Nat) (t2 : Nat) (t3 : Nat) (t4 : Nat) (v5 : Int32) (v6 : Int32) (tw0 : Nat) (vw1 : Int32) (vw2 : Int32) (S : zSp) (σ : zS) : Prop := wX12_character (zSl S) σ tw0 vw1 vw2 (fun r2 σ1 => wX12_thrown (zSl S) σ1 t2 (fun r4 σ3 => ((r4 = v6 → ((v6 = 0 → vp_in (0 : Int32) ((zSl S) t3) ∧ (((lg_cmp (gl σ3 t3 (0 : Int32).toNatClampNeg) r2.toInt64) = 0 → wL_law_2768 L xs kb28 t1 t2 t3 t4 v5 S σ3) ∧ (¬ (lg_cmp (gl σ3 t3 (0 : Int32).toNatClampNeg) r2.toInt64) = 0 → False))) ∧ (¬ v6 = 0 → wL_law_2768 L xs kb28 t1 t2 t3 t4 v5 S σ3))) ∧ (¬ r4 = v6 → False))))
def wL_law_684 (L : Nat) (xs : Nat → Int32) (kb28 : Nat → Nat → Nat → Nat → Int32 → zSp → zS → Prop) (t1 : Nat) (t2 : Nat) (t3 : Nat) (t4 : Nat) (v5 : Int32) (tw0 : Nat) (vw1 : Int32) (vw2 : Int32) (S : zSp) (σ : zS) : Prop := wL_character (zSl S) σ tw0 vw1 vw2 t3 (fun r2 σ1 => ∀ x3 : Int32, x3 = v5 + 1 → vp_in x3 L ∧ ∀ x5 : Int32, x5 = v5 + 2 → vp_in x5 L ∧ (((xs x5.toNatClampNeg) = 0 → wL_law_711 L xs kb28 t1 t2 t3 t4 v5 r2 t2 (xs x3.toNatClampNeg) 0 S σ1) ∧ (¬ (xs x5.toNatClampNeg) = 0 → wL_law_711 L xs kb28 t1 t2 t3 t4 v5 r2 t2 (xs x3.toNatClampNeg) 1 S σ1)))
def wL_law_663 (L : Nat) (xs : Nat → Int32) (kb28 : Nat → Nat → Nat → Nat → Int32 → zSp → zS → Prop) (t1 : Nat) (t2 : Nat) (t3 : Nat) (t4 : Nat) (v5 : Int32) (S : zSp) (σ : zS) : Prop := ∀ x1 : Int32, x1 = v5 + 1 → vp_in x1 L ∧ ∀ x3 : Int32, x3 = v5 + 2 → vp_in x3 L ∧ (((xs x3.toNatClampNeg) = 0 → wL_law_684 L xs kb28 t1 t2 t3 t4 v5 t1 (xs x1.toNatClampNeg) 0 S σ) ∧ (¬ (xs x3.toNatClampNeg) = 0 → wL_law_684 L xs kb28 t1 t2 t3 t4 v5 t1 (xs x1.toNatClampNeg) 1 S σ))
def wL_law_747 (L : Nat) (xs : Nat → Int32) (kb28 : Nat → Nat → Nat → Nat → Int32 → zSp → zS → Prop) (t1 : Nat) (t2 : Nat) (t3 : Nat) (t4 : Nat) (v5 : Int32) (S : zSp) (σ : zS) : Prop := wX11_lead (zSl S) σ t1 (fun r2 σ1 => wX12_lead (zSl S) σ1 t2 (fun r4 σ3 => ((r2 = r4 → wL_law_2768 L xs kb28 t1 t2 t3 t4 v5 S σ3) ∧ (¬ r2 = r4 → False))))
def wL_law_760 (L : Nat) (xs : Nat → Int32) (kb28 : Nat → Nat → Nat → Nat → Int32 → zSp → zS → Prop) (t1 : Nat) (t2 : Nat) (t3 : Nat) (t4 : Nat) (v5 : Int32) (S : zSp) (σ : zS) : Prop := ∀ x1 : Int32, x1 = v5 + 1 → vp_in x1 L ∧ ∀ x3 : Int32, x3 = xs x1.toNatClampNeg → wL_lineCount (zSl S) σ t1 x3 t3 (fun r5 σ4 => ∀ x6 : Int32, x6 = v5 + 1 → vp_in x6 L ∧ ∀ x8 : Int32, x8 = xs x6.toNatClampNeg → wX12_lineCount (zSl S) σ4 t2 x8 (fun r10 σ9 => wX12_thrown (zSl S) σ9 t2 (fun r12 σ11 => ((r12 = r5 → ((r5 = 0 → vp_in (0 : Int32) ((zSl S) t3) ∧ (((lg_cmp (gl σ11 t3 (0 : Int32).toNatClampNeg) r10.toInt64) = 0 → wL_law_2768 L xs kb28 t1 t2 t3 t4 v5 S σ11) ∧ (¬ (lg_cmp (gl σ11 t3 (0 : Int32).toNatClampNeg) r10.toInt64) = 0 → False))) ∧ (¬ r5 = 0 → wL_law_2768 L xs kb28 t1 t2 t3 t4 v5 S σ11))) ∧ (¬ r12 = r5 → False)))))
def wL_law_816 (L : Nat) (xs : Nat → Int32) (kb28 : Nat → Nat → Nat → Nat → Int32 → zSp → zS → Prop) (t1 : Nat) (t2 : Nat) (t3 : Nat) (t4 : Nat) (v5 : Int32) (S : zSp) (σ : zS) : Prop := ∀ x1 : Int32, x1 = v5 + 1 → vp_in x1 L ∧ ∀ x3 : Int32, x3 = xs x1.toNatClampNeg → wL_linesDone (zSl S) σ t1 x3 t3 (fun r5 σ4 => ∀ x6 : Int32, x6 = v5 + 1 → vp_in x6 L ∧ ∀ x8 : Int32, x8 = xs x6.toNatClampNeg → wX12_linesDone (zSl S) σ4 t2 x8 (fun r10 σ9 => wX12_thrown (zSl S) σ9 t2 (fun r12 σ11 => ((r12 = r5 → ((r5 = 0 → vp_in (0 : Int32) ((zSl S) t3) ∧ (((lg_cmp (gl σ11 t3 (0 : Int32).toNatClampNeg) r10.toInt64) = 0 → wL_law_2768 L xs kb28 t1 t2 t3 t4 v5 S σ11) ∧ (¬ (lg_cmp (gl σ11 t3 (0 : Int32).toNatClampNeg) r10.toInt64) = 0 → False))) ∧ (¬ r5 = 0 → wL_law_2768 L xs kb28 t1 t2 t3 t4 v5 S σ11))) ∧ (¬ r12 = r5 → False)))))
def wL_law_872 (L : Nat) (xs : Nat → Int32) (kb28 : Nat → Nat → Nat → Nat → Int32 → zSp → zS → Prop) (t1 : Nat) (t2 : Nat) (t3 : Nat) (t4 : Nat) (v5 : Int32) (S : zSp) (σ : zS) : Prop := ∀ x1 : Int32, x1 = v5 + 1 → vp_in x1 L ∧ ∀ x3 : Int32, x3 = v5 + 2 → vp_in x3 L ∧ ∀ x5 : Int32, x5 = xs x3.toNatClampNeg → ∀ x6 : Int32, x6 = xs x1.toNatClampNeg → wL_lineLength (zSl S) σ t1 x6 x5 t3 (fun r8 σ7 => ∀ x9 : Int32, x9 = v5 + 1 → vp_in x9 L ∧ ∀ x11 : Int32, x11 = v5 + 2 → vp_in x11 L ∧ ∀ x13 : Int32, x13 = xs x11.toNatClampNeg → ∀ x14 : Int32, x14 = xs x9.toNatClampNeg → wX12_lineLength (zSl S) σ7 t2 x14 x13 (fun r16 σ15 => wX12_thrown (zSl S) σ15 t2 (fun r18 σ17 => ((r18 = r8 → ((r8 = 0 → vp_in (0 : Int32) ((zSl S) t3) ∧ (((lg_cmp (gl σ17 t3 (0 : Int32).toNatClampNeg) r16.toInt64) = 0 → wL_law_2768 L xs kb28 t1 t2 t3 t4 v5 S σ17) ∧ (¬ (lg_cmp (gl σ17 t3 (0 : Int32).toNatClampNeg) r16.toInt64) = 0 → False))) ∧ (¬ r8 = 0 → wL_law_2768 L xs kb28 t1 t2 t3 t4 v5 S σ17))) ∧ (¬ r18 = r8 → False)))))
def wL_law_940 (L : Nat) (xs : Nat → Int32) (kb28 : Nat → Nat → Nat → Nat → Int32 → zSp → zS → Prop) (t1 : Nat) (t2 : Nat) (t3 : Nat) (t4 : Nat) (v5 : Int32) (S : zSp) (σ : zS) : Prop := ∀ x1 : Int32, x1 = v5 + 1 → vp_in x1 L ∧ ∀ x3 : Int32, x3 = v5 + 2 → vp_in x3 L ∧ ∀ x5 : Int32, x5 = xs x3.toNatClampNeg → ∀ x6 : Int32, x6 = xs x1.toNatClampNeg → wL_pulsesOf (zSl S) σ t1 x6 x5 t3 (fun r8 σ7 => ∀ x9 : Int32, x9 = v5 + 1 → vp_in x9 L ∧ ∀ x11 : Int32, x11 = v5 + 2 → vp_in x11 L ∧ ∀ x13 : Int32, x13 = xs x11.toNatClampNeg → ∀ x14 : Int32, x14 = xs x9.toNatClampNeg → wX12_pulsesOf (zSl S) σ7 t2 x14 x13 (fun r16 σ15 => wX12_thrown (zSl S) σ15 t2 (fun r18 σ17 => ((r18 = r8 → ((r8 = 0 → vp_in (0 : Int32) ((zSl S) t3) ∧ (((lg_cmp (gl σ17 t3 (0 : Int32).toNatClampNeg) r16.toInt64) = 0 → wL_law_2768 L xs kb28 t1 t2 t3 t4 v5 S σ17) ∧ (¬ (lg_cmp (gl σ17 t3 (0 : Int32).toNatClampNeg) r16.toInt64) = 0 → False))) ∧ (¬ r8 = 0 → wL_law_2768 L xs kb28 t1 t2 t3 t4 v5 S σ17))) ∧ (¬ r18 = r8 → False)))))
def wL_law_1008 (L : Nat) (xs : Nat → Int32) (kb28 : Nat → Nat → Nat → Nat → Int32 → zSp → zS → Prop) (t1 : Nat) (t2 : Nat) (t3 : Nat) (t4 : Nat) (v5 : Int32) (S : zSp) (σ : zS) : Prop := ∀ x1 : Int32, x1 = v5 + 1 → vp_in x1 L ∧ ∀ x3 : Int32, x3 = v5 + 2 → vp_in x3 L ∧ ∀ x5 : Int32, x5 = v5 + 3 → vp_in x5 L ∧ ∀ x7 : Int32, x7 = xs x5.toNatClampNeg → ∀ x8 : Int32, x8 = xs x3.toNatClampNeg → ∀ x9 : Int32, x9 = xs x1.toNatClampNeg → wL_pulseOf (zSl S) σ t1 x9 x8 x7 t3 (fun r11 σ10 => ∀ x12 : Int32, x12 = v5 + 1 → vp_in x12 L ∧ ∀ x14 : Int32, x14 = v5 + 2 → vp_in x14 L ∧ ∀ x16 : Int32, x16 = v5 + 3 → vp_in x16 L ∧ ∀ x18 : Int32, x18 = xs x16.toNatClampNeg → ∀ x19 : Int32, x19 = xs x14.toNatClampNeg → ∀ x20 : Int32, x20 = xs x12.toNatClampNeg → wX12_pulseOf (zSl S) σ10 t2 x20 x19 x18 (fun r22 σ21 => wX12_thrown (zSl S) σ21 t2 (fun r24 σ23 => ((r24 = r11 → ((r11 = 0 → vp_in (0 : Int32) ((zSl S) t3) ∧ (((lg_cmp (gl σ23 t3 (0 : Int32).toNatClampNeg) r22.toInt64) = 0 → wL_law_2768 L xs kb28 t1 t2 t3 t4 v5 S σ23) ∧ (¬ (lg_cmp (gl σ23 t3 (0 : Int32).toNatClampNeg) r22.toInt64) = 0 → False))) ∧ (¬ r11 = 0 → wL_law_2768 L xs kb28 t1 t2 t3 t4 v5 S σ23))) ∧ (¬ r24 = r11 → False)))))
def wL_law_1088 (L : Nat) (xs : Nat → Int32) (kb28 : Nat → Nat → Nat → Nat → Int32 → zSp → zS → Prop) (t1 : Nat) (t2 : Nat) (t3 : Nat) (t4 : Nat) (v5 : Int32) (S : zSp) (σ : zS) : Prop := ∀ x1 : Int32, x1 = v5 + 1 → vp_in x1 L ∧ ∀ x3 : Int32, x3 = v5 + 2 → vp_in x3 L ∧ ∀ x5 : Int32, x5 = xs x3.toNatClampNeg → ∀ x6 : Int32, x6 = xs x1.toNatClampNeg → wL_ticksFor (zSl S) σ t1 x6 x5 t3 (fun r8 σ7 => ∀ x9 : Int32, x9 = v5 + 1 → vp_in x9 L ∧ ∀ x11 : Int32, x11 = v5 + 2 → vp_in x11 L ∧ ∀ x13 : Int32, x13 = xs x11.toNatClampNeg → ∀ x14 : Int32, x14 = xs x9.toNatClampNeg → wX12_ticksFor (zSl S) σ7 t2 x14 x13 (fun r16 σ15 => wX12_thrown (zSl S) σ15 t2 (fun r18 σ17 => ((r18 = r8 → ((r8 = 0 → vp_in (0 : Int32) ((zSl S) t3) ∧ (((lg_cmp (gl σ17 t3 (0 : Int32).toNatClampNeg) r16.toInt64) = 0 → wL_law_2768 L xs kb28 t1 t2 t3 t4 v5 S σ17) ∧ (¬ (lg_cmp (gl σ17 t3 (0 : Int32).toNatClampNeg) r16.toInt64) = 0 → False))) ∧ (¬ r8 = 0 → wL_law_2768 L xs kb28 t1 t2 t3 t4 v5 S σ17))) ∧ (¬ r18 = r8 → False)))))
def wL_law_1156 (L : Nat) (xs : Nat → Int32) (kb28 : Nat → Nat → Nat → Nat → Int32 → zSp → zS → Prop) (t1 : Nat) (t2 : Nat) (t3 : Nat) (t4 : Nat) (v5 : Int32) (S : zSp) (σ : zS) : Prop := ∀ x1 : Int32, x1 = v5 + 1 → vp_in x1 L ∧ ∀ x3 : Int32, x3 = xs x1.toNatClampNeg → wL_slowestLine (zSl S) σ t1 x3 t3 (fun r5 σ4 => ∀ x6 : Int32, x6 = v5 + 1 → vp_in x6 L ∧ ∀ x8 : Int32, x8 = xs x6.toNatClampNeg → wX12_slowestLine (zSl S) σ4 t2 x8 (fun r10 σ9 => wX12_thrown (zSl S) σ9 t2 (fun r12 σ11 => ((r12 = r5 → ((r5 = 0 → vp_in (0 : Int32) ((zSl S) t3) ∧ (((lg_cmp (gl σ11 t3 (0 : Int32).toNatClampNeg) r10.toInt64) = 0 → wL_law_2768 L xs kb28 t1 t2 t3 t4 v5 S σ11) ∧ (¬ (lg_cmp (gl σ11 t3 (0 : Int32).toNatClampNeg) r10.toInt64) = 0 → False))) ∧ (¬ r5 = 0 → wL_law_2768 L xs kb28 t1 t2 t3 t4 v5 S σ11))) ∧ (¬ r12 = r5 → False)))))
def wL_law_1212 (L : Nat) (xs : Nat → Int32) (kb28 : Nat → Nat → Nat → Nat → Int32 → zSp → zS → Prop) (t1 : Nat) (t2 : Nat) (t3 : Nat) (t4 : Nat) (v5 : Int32) (S : zSp) (σ : zS) : Prop := wX11_sender (zSl S) σ t1 (fun r2 σ1 => wX12_sender (zSl S) σ1 t2 (fun r4 σ3 => ((r2 = r4 → wL_law_2768 L xs kb28 t1 t2 t3 t4 v5 S σ3) ∧ (¬ r2 = r4 → False))))
def wL_law_1225 (L : Nat) (xs : Nat → Int32) (kb28 : Nat → Nat → Nat → Nat → Int32 → zSp → zS → Prop) (t1 : Nat) (t2 : Nat) (t3 : Nat) (t4 : Nat) (v5 : Int32) (S : zSp) (σ : zS) : Prop := wX11_isWaiting (zSl S) σ t1 (fun r2 σ1 => wX12_isWaiting (zSl S) σ1 t2 (fun r4 σ3 => ((r2 = r4 → wL_law_2768 L xs kb28 t1 t2 t3 t4 v5 S σ3) ∧ (¬ r2 = r4 → False))))
def wL_law_1238 (L : Nat) (xs : Nat → Int32) (kb28 : Nat → Nat → Nat → Nat → Int32 → zSp → zS → Prop) (t1 : Nat) (t2 : Nat) (t3 : Nat) (t4 : Nat) (v5 : Int32) (S : zSp) (σ : zS) : Prop := wX11_sentOfLine (zSl S) σ t1 (fun r2 σ1 => wX12_sentOfLine (zSl S) σ1 t2 (fun r4 σ3 => ((r2 = r4 → wL_law_2768 L xs kb28 t1 t2 t3 t4 v5 S σ3) ∧ (¬ r2 = r4 → False))))
def wL_law_1251 (L : Nat) (xs : Nat → Int32) (kb28 : Nat → Nat → Nat → Nat → Int32 → zSp → zS → Prop) (t1 : Nat) (t2 : Nat) (t3 : Nat) (t4 : Nat) (v5 : Int32) (S : zSp) (σ : zS) : Prop := wX11_repetition (zSl S) σ t1 (fun r2 σ1 => wX12_repetition (zSl S) σ1 t2 (fun r4 σ3 => ((r2 = r4 → wL_law_2768 L xs kb28 t1 t2 t3 t4 v5 S σ3) ∧ (¬ r2 = r4 → False))))
def wL_law_1264 (L : Nat) (xs : Nat → Int32) (kb28 : Nat → Nat → Nat → Nat → Int32 → zSp → zS → Prop) (t1 : Nat) (t2 : Nat) (t3 : Nat) (t4 : Nat) (v5 : Int32) (S : zSp) (σ : zS) : Prop := wX11_underWay (zSl S) σ t1 (fun r2 σ1 => wX12_underWay (zSl S) σ1 t2 (fun r4 σ3 => ((r2 = r4 → wL_law_2768 L xs kb28 t1 t2 t3 t4 v5 S σ3) ∧ (¬ r2 = r4 → False))))
def wL_law_1277 (L : Nat) (xs : Nat → Int32) (kb28 : Nat → Nat → Nat → Nat → Int32 → zSp → zS → Prop) (t1 : Nat) (t2 : Nat) (t3 : Nat) (t4 : Nat) (v5 : Int32) (S : zSp) (σ : zS) : Prop := wX11_nextPulseIn (zSl S) σ t1 (fun r2 σ1 => wX12_nextPulseIn (zSl S) σ1 t2 (fun r4 σ3 => ((r2 = r4 → wL_law_2768 L xs kb28 t1 t2 t3 t4 v5 S σ3) ∧ (¬ r2 = r4 → False))))
def wL_law_1290 (L : Nat) (xs : Nat → Int32) (kb28 : Nat → Nat → Nat → Nat → Int32 → zSp → zS → Prop) (t1 : Nat) (t2 : Nat) (t3 : Nat) (t4 : Nat) (v5 : Int32) (S : zSp) (σ : zS) : Prop := wX11_silence (zSl S) σ t1 (fun r2 σ1 => wX12_silence (zSl S) σ1 t2 (fun r4 σ3 => ((r2 = r4 → wL_law_2768 L xs kb28 t1 t2 t3 t4 v5 S σ3) ∧ (¬ r2 = r4 → False))))
def wL_law_1303 (L : Nat) (xs : Nat → Int32) (kb28 : Nat → Nat → Nat → Nat → Int32 → zSp → zS → Prop) (t1 : Nat) (t2 : Nat) (t3 : Nat) (t4 : Nat) (v5 : Int32) (S : zSp) (σ : zS) : Prop := wX11_bufferLength (zSl S) σ t1 (fun r2 σ1 => wX12_bufferLength (zSl S) σ1 t2 (fun r4 σ3 => ((r2 = r4 → wL_law_2768 L xs kb28 t1 t2 t3 t4 v5 S σ3) ∧ (¬ r2 = r4 → False))))
def wL_law_1316 (L : Nat) (xs : Nat → Int32) (kb28 : Nat → Nat → Nat → Nat → Int32 → zSp → zS → Prop) (t1 : Nat) (t2 : Nat) (t3 : Nat) (t4 : Nat) (v5 : Int32) (S : zSp) (σ : zS) : Prop := ∀ x1 : Int32, x1 = v5 + 1 → vp_in x1 L ∧ ∀ x3 : Int32, x3 = xs x1.toNatClampNeg → wL_bufferCharacter (zSl S) σ t1 x3 t3 (fun r5 σ4 => ∀ x6 : Int32, x6 = v5 + 1 → vp_in x6 L ∧ ∀ x8 : Int32, x8 = xs x6.toNatClampNeg → wX12_bufferCharacter (zSl S) σ4 t2 x8 (fun r10 σ9 => wX12_thrown (zSl S) σ9 t2 (fun r12 σ11 => ((r12 = r5 → ((r5 = 0 → vp_in (0 : Int32) ((zSl S) t3) ∧ (((lg_cmp (gl σ11 t3 (0 : Int32).toNatClampNeg) r10.toInt64) = 0 → wL_law_2768 L xs kb28 t1 t2 t3 t4 v5 S σ11) ∧ (¬ (lg_cmp (gl σ11 t3 (0 : Int32).toNatClampNeg) r10.toInt64) = 0 → False))) ∧ (¬ r5 = 0 → wL_law_2768 L xs kb28 t1 t2 t3 t4 v5 S σ11))) ∧ (¬ r12 = r5 → False)))))
def wL_law_1372 (L : Nat) (xs : Nat → Int32) (kb28 : Nat → Nat → Nat → Nat → Int32 → zSp → zS → Prop) (t1 : Nat) (t2 : Nat) (t3 : Nat) (t4 : Nat) (v5 : Int32) (S : zSp) (σ : zS) : Prop := ∀ x1 : Int32, x1 = v5 + 1 → vp_in x1 L ∧ ∀ x3 : Int32, x3 = xs x1.toNatClampNeg → wL_receivedLength (zSl S) σ t1 x3 t3 (fun r5 σ4 => ∀ x6 : Int32, x6 = v5 + 1 → vp_in x6 L ∧ ∀ x8 : Int32, x8 = xs x6.toNatClampNeg → wX12_receivedLength (zSl S) σ4 t2 x8 (fun r10 σ9 => wX12_thrown (zSl S) σ9 t2 (fun r12 σ11 => ((r12 = r5 → ((r5 = 0 → vp_in (0 : Int32) ((zSl S) t3) ∧ (((lg_cmp (gl σ11 t3 (0 : Int32).toNatClampNeg) r10.toInt64) = 0 → wL_law_2768 L xs kb28 t1 t2 t3 t4 v5 S σ11) ∧ (¬ (lg_cmp (gl σ11 t3 (0 : Int32).toNatClampNeg) r10.toInt64) = 0 → False))) ∧ (¬ r5 = 0 → wL_law_2768 L xs kb28 t1 t2 t3 t4 v5 S σ11))) ∧ (¬ r12 = r5 → False)))))
def wL_law_1428 (L : Nat) (xs : Nat → Int32) (kb28 : Nat → Nat → Nat → Nat → Int32 → zSp → zS → Prop) (t1 : Nat) (t2 : Nat) (t3 : Nat) (t4 : Nat) (v5 : Int32) (S : zSp) (σ : zS) : Prop := ∀ x1 : Int32, x1 = v5 + 1 → vp_in x1 L ∧ ∀ x3 : Int32, x3 = v5 + 2 → vp_in x3 L ∧ ∀ x5 : Int32, x5 = xs x3.toNatClampNeg → ∀ x6 : Int32, x6 = xs x1.toNatClampNeg → wL_receivedCharacter (zSl S) σ t1 x6 x5 t3 (fun r8 σ7 => ∀ x9 : Int32, x9 = v5 + 1 → vp_in x9 L ∧ ∀ x11 : Int32, x11 = v5 + 2 → vp_in x11 L ∧ ∀ x13 : Int32, x13 = xs x11.toNatClampNeg → ∀ x14 : Int32, x14 = xs x9.toNatClampNeg → wX12_receivedCharacter (zSl S) σ7 t2 x14 x13 (fun r16 σ15 => wX12_thrown (zSl S) σ15 t2 (fun r18 σ17 => ((r18 = r8 → ((r8 = 0 → vp_in (0 : Int32) ((zSl S) t3) ∧ (((lg_cmp (gl σ17 t3 (0 : Int32).toNatClampNeg) r16.toInt64) = 0 → wL_law_2768 L xs kb28 t1 t2 t3 t4 v5 S σ17) ∧ (¬ (lg_cmp (gl σ17 t3 (0 : Int32).toNatClampNeg) r16.toInt64) = 0 → False))) ∧ (¬ r8 = 0 → wL_law_2768 L xs kb28 t1 t2 t3 t4 v5 S σ17))) ∧ (¬ r18 = r8 → False)))))
def wL_law_1496 (L : Nat) (xs : Nat → Int32) (kb28 : Nat → Nat → Nat → Nat → Int32 → zSp → zS → Prop) (t1 : Nat) (t2 : Nat) (t3 : Nat) (t4 : Nat) (v5 : Int32) (S : zSp) (σ : zS) : Prop := wX11_pulses (zSl S) σ t1 (fun r2 σ1 => wX12_pulses (zSl S) σ1 t2 (fun r4 σ3 => ((r2 = r4 → wL_law_2768 L xs kb28 t1 t2 t3 t4 v5 S σ3) ∧ (¬ r2 = r4 → False))))
def wL_law_1509 (L : Nat) (xs : Nat → Int32) (kb28 : Nat → Nat → Nat → Nat → Int32 → zSp → zS → Prop) (t1 : Nat) (t2 : Nat) (t3 : Nat) (t4 : Nat) (v5 : Int32) (S : zSp) (σ : zS) : Prop := wX11_lostPulses (zSl S) σ t1 (fun r2 σ1 => wX12_lostPulses (zSl S) σ1 t2 (fun r4 σ3 => ((r2 = r4 → wL_law_2768 L xs kb28 t1 t2 t3 t4 v5 S σ3) ∧ (¬ r2 = r4 → False))))
def wL_law_1522 (L : Nat) (xs : Nat → Int32) (kb28 : Nat → Nat → Nat → Nat → Int32 → zSp → zS → Prop) (t1 : Nat) (t2 : Nat) (t3 : Nat) (t4 : Nat) (v5 : Int32) (S : zSp) (σ : zS) : Prop := ∀ x1 : Int32, x1 = v5 + 1 → vp_in x1 L ∧ ∀ x3 : Int32, x3 = xs x1.toNatClampNeg → wL_prints (zSl S) σ t1 x3 t3 (fun r5 σ4 => ∀ x6 : Int32, x6 = v5 + 1 → vp_in x6 L ∧ ∀ x8 : Int32, x8 = xs x6.toNatClampNeg → wX12_prints (zSl S) σ4 t2 x8 (fun r10 σ9 => wX12_thrown (zSl S) σ9 t2 (fun r12 σ11 => ((r12 = r5 → ((r5 = 0 → vp_in (0 : Int32) ((zSl S) t3) ∧ (((lg_cmp (gl σ11 t3 (0 : Int32).toNatClampNeg) r10.toInt64) = 0 → wL_law_2768 L xs kb28 t1 t2 t3 t4 v5 S σ11) ∧ (¬ (lg_cmp (gl σ11 t3 (0 : Int32).toNatClampNeg) r10.toInt64) = 0 → False))) ∧ (¬ r5 = 0 → wL_law_2768 L xs kb28 t1 t2 t3 t4 v5 S σ11))) ∧ (¬ r12 = r5 → False)))))
def wL_law_1578 (L : Nat) (xs : Nat → Int32) (kb28 : Nat → Nat → Nat → Nat → Int32 → zSp → zS → Prop) (t1 : Nat) (t2 : Nat) (t3 : Nat) (t4 : Nat) (v5 : Int32) (S : zSp) (σ : zS) : Prop := ∀ x1 : Int32, x1 = v5 + 1 → vp_in x1 L ∧ ∀ x3 : Int32, x3 = xs x1.toNatClampNeg → wL_misprints (zSl S) σ t1 x3 t3 (fun r5 σ4 => ∀ x6 : Int32, x6 = v5 + 1 → vp_in x6 L ∧ ∀ x8 : Int32, x8 = xs x6.toNatClampNeg → wX12_misprints (zSl S) σ4 t2 x8 (fun r10 σ9 => wX12_thrown (zSl S) σ9 t2 (fun r12 σ11 => ((r12 = r5 → ((r5 = 0 → vp_in (0 : Int32) ((zSl S) t3) ∧ (((lg_cmp (gl σ11 t3 (0 : Int32).toNatClampNeg) r10.toInt64) = 0 → wL_law_2768 L xs kb28 t1 t2 t3 t4 v5 S σ11) ∧ (¬ (lg_cmp (gl σ11 t3 (0 : Int32).toNatClampNeg) r10.toInt64) = 0 → False))) ∧ (¬ r5 = 0 → wL_law_2768 L xs kb28 t1 t2 t3 t4 v5 S σ11))) ∧ (¬ r12 = r5 → False)))))
def wL_law_1634 (L : Nat) (xs : Nat → Int32) (kb28 : Nat → Nat → Nat → Nat → Int32 → zSp → zS → Prop) (t1 : Nat) (t2 : Nat) (t3 : Nat) (t4 : Nat) (v5 : Int32) (S : zSp) (σ : zS) : Prop := ∀ x1 : Int32, x1 = v5 + 1 → vp_in x1 L ∧ ∀ x3 : Int32, x3 = xs x1.toNatClampNeg → wL_worstOffset (zSl S) σ t1 x3 t3 (fun r5 σ4 => ∀ x6 : Int32, x6 = v5 + 1 → vp_in x6 L ∧ ∀ x8 : Int32, x8 = xs x6.toNatClampNeg → wX12_worstOffset (zSl S) σ4 t2 x8 (fun r10 σ9 => wX12_thrown (zSl S) σ9 t2 (fun r12 σ11 => ((r12 = r5 → ((r5 = 0 → vp_in (0 : Int32) ((zSl S) t3) ∧ (((lg_cmp (gl σ11 t3 (0 : Int32).toNatClampNeg) r10.toInt64) = 0 → wL_law_2768 L xs kb28 t1 t2 t3 t4 v5 S σ11) ∧ (¬ (lg_cmp (gl σ11 t3 (0 : Int32).toNatClampNeg) r10.toInt64) = 0 → False))) ∧ (¬ r5 = 0 → wL_law_2768 L xs kb28 t1 t2 t3 t4 v5 S σ11))) ∧ (¬ r12 = r5 → False)))))
def wL_law_1690 (L : Nat) (xs : Nat → Int32) (kb28 : Nat → Nat → Nat → Nat → Int32 → zSp → zS → Prop) (t1 : Nat) (t2 : Nat) (t3 : Nat) (t4 : Nat) (v5 : Int32) (S : zSp) (σ : zS) : Prop := ∀ x1 : Int32, x1 = v5 + 1 → vp_in x1 L ∧ ∀ x3 : Int32, x3 = xs x1.toNatClampNeg → wL_meanOffset (zSl S) σ t1 x3 t4 (fun r5 σ4 => ∀ x6 : Int32, x6 = v5 + 1 → vp_in x6 L ∧ ∀ x8 : Int32, x8 = xs x6.toNatClampNeg → wX12_meanOffset (zSl S) σ4 t2 x8 (fun r10 σ9 => wX12_thrown (zSl S) σ9 t2 (fun r12 σ11 => ((r12 = r5 → ((r5 = 0 → vp_in (0 : Int32) ((zSl S) t4) ∧ (((Op.cmpValue (FP.dcmp (gd σ11 t4 (0 : Int32).toNatClampNeg) r10) CmpOp.l) = 0 → wL_law_2768 L xs kb28 t1 t2 t3 t4 v5 S σ11) ∧ (¬ (Op.cmpValue (FP.dcmp (gd σ11 t4 (0 : Int32).toNatClampNeg) r10) CmpOp.l) = 0 → vp_in (0 : Int32) ((zSl S) t4) ∧ vp_in (0 : Int32) ((zSl S) t4) ∧ (((Op.cmpValue (FP.dcmp (gd σ11 t4 (0 : Int32).toNatClampNeg) (gd σ11 t4 (0 : Int32).toNatClampNeg)) CmpOp.l) = 0 → False) ∧ (¬ (Op.cmpValue (FP.dcmp (gd σ11 t4 (0 : Int32).toNatClampNeg) (gd σ11 t4 (0 : Int32).toNatClampNeg)) CmpOp.l) = 0 → (((Op.cmpValue (FP.dcmp r10 r10) CmpOp.l) = 0 → False) ∧ (¬ (Op.cmpValue (FP.dcmp r10 r10) CmpOp.l) = 0 → wL_law_2768 L xs kb28 t1 t2 t3 t4 v5 S σ11))))))) ∧ (¬ r5 = 0 → wL_law_2768 L xs kb28 t1 t2 t3 t4 v5 S σ11))) ∧ (¬ r12 = r5 → False)))))
def wL_law_1767 (L : Nat) (xs : Nat → Int32) (kb28 : Nat → Nat → Nat → Nat → Int32 → zSp → zS → Prop) (t1 : Nat) (t2 : Nat) (t3 : Nat) (t4 : Nat) (v5 : Int32) (S : zSp) (σ : zS) : Prop := wX11_eventCount (zSl S) σ t1 (fun r2 σ1 => wX12_eventCount (zSl S) σ1 t2 (fun r4 σ3 => ((r2 = r4 → wL_law_2768 L xs kb28 t1 t2 t3 t4 v5 S σ3) ∧ (¬ r2 = r4 → False))))
def wL_law_1780 (L : Nat) (xs : Nat → Int32) (kb28 : Nat → Nat → Nat → Nat → Int32 → zSp → zS → Prop) (t1 : Nat) (t2 : Nat) (t3 : Nat) (t4 : Nat) (v5 : Int32) (S : zSp) (σ : zS) : Prop := ∀ x1 : Int32, x1 = v5 + 1 → vp_in x1 L ∧ ∀ x3 : Int32, x3 = v5 + 2 → vp_in x3 L ∧ ∀ x5 : Int32, x5 = xs x3.toNatClampNeg → ∀ x6 : Int32, x6 = xs x1.toNatClampNeg → wL_event (zSl S) σ t1 x6 x5 t3 (fun r8 σ7 => ∀ x9 : Int32, x9 = v5 + 1 → vp_in x9 L ∧ ∀ x11 : Int32, x11 = v5 + 2 → vp_in x11 L ∧ ∀ x13 : Int32, x13 = xs x11.toNatClampNeg → ∀ x14 : Int32, x14 = xs x9.toNatClampNeg → wX12_event (zSl S) σ7 t2 x14 x13 (fun r16 σ15 => wX12_thrown (zSl S) σ15 t2 (fun r18 σ17 => ((r18 = r8 → ((r8 = 0 → vp_in (0 : Int32) ((zSl S) t3) ∧ (((lg_cmp (gl σ17 t3 (0 : Int32).toNatClampNeg) r16.toInt64) = 0 → wL_law_2768 L xs kb28 t1 t2 t3 t4 v5 S σ17) ∧ (¬ (lg_cmp (gl σ17 t3 (0 : Int32).toNatClampNeg) r16.toInt64) = 0 → False))) ∧ (¬ r8 = 0 → wL_law_2768 L xs kb28 t1 t2 t3 t4 v5 S σ17))) ∧ (¬ r18 = r8 → False)))))
def wL_law_1848 (L : Nat) (xs : Nat → Int32) (kb28 : Nat → Nat → Nat → Nat → Int32 → zSp → zS → Prop) (t1 : Nat) (t2 : Nat) (t3 : Nat) (t4 : Nat) (v5 : Int32) (S : zSp) (σ : zS) : Prop := ∀ x1 : Int32, x1 = v5 + 1 → vp_in x1 L ∧ ∀ x3 : Int32, x3 = xs x1.toNatClampNeg → wL_run (zSl S) σ t1 x3 t3 (fun r5 σ4 => ∀ x6 : Int32, x6 = v5 + 1 → vp_in x6 L ∧ ∀ x8 : Int32, x8 = xs x6.toNatClampNeg → wX12_run (zSl S) σ4 t2 x8 (fun r10 σ9 => wX12_thrown (zSl S) σ9 t2 (fun r12 σ11 => ((r12 = r5 → ((r5 = 0 → vp_in (0 : Int32) ((zSl S) t3) ∧ (((lg_cmp (gl σ11 t3 (0 : Int32).toNatClampNeg) r10.toInt64) = 0 → wL_law_2768 L xs kb28 t1 t2 t3 t4 v5 S σ11) ∧ (¬ (lg_cmp (gl σ11 t3 (0 : Int32).toNatClampNeg) r10.toInt64) = 0 → False))) ∧ (¬ r5 = 0 → wL_law_2768 L xs kb28 t1 t2 t3 t4 v5 S σ11))) ∧ (¬ r12 = r5 → False)))))
def wL_law_1904 (L : Nat) (xs : Nat → Int32) (kb28 : Nat → Nat → Nat → Nat → Int32 → zSp → zS → Prop) (t1 : Nat) (t2 : Nat) (t3 : Nat) (t4 : Nat) (v5 : Int32) (S : zSp) (σ : zS) : Prop := ∀ x1 : Int32, x1 = v5 + 1 → vp_in x1 L ∧ ∀ x3 : Int32, x3 = xs x1.toNatClampNeg → wL_runUntilDone (zSl S) σ t1 x3 t3 (fun r5 σ4 => ∀ x6 : Int32, x6 = v5 + 1 → vp_in x6 L ∧ ∀ x8 : Int32, x8 = xs x6.toNatClampNeg → wX12_runUntilDone (zSl S) σ4 t2 x8 (fun r10 σ9 => wX12_thrown (zSl S) σ9 t2 (fun r12 σ11 => ((r12 = r5 → ((r5 = 0 → vp_in (0 : Int32) ((zSl S) t3) ∧ (((lg_cmp (gl σ11 t3 (0 : Int32).toNatClampNeg) r10.toInt64) = 0 → wL_law_2768 L xs kb28 t1 t2 t3 t4 v5 S σ11) ∧ (¬ (lg_cmp (gl σ11 t3 (0 : Int32).toNatClampNeg) r10.toInt64) = 0 → False))) ∧ (¬ r5 = 0 → wL_law_2768 L xs kb28 t1 t2 t3 t4 v5 S σ11))) ∧ (¬ r12 = r5 → False)))))
def wL_law_1960 (L : Nat) (xs : Nat → Int32) (kb28 : Nat → Nat → Nat → Nat → Int32 → zSp → zS → Prop) (t1 : Nat) (t2 : Nat) (t3 : Nat) (t4 : Nat) (v5 : Int32) (S : zSp) (σ : zS) : Prop := ∀ x1 : Int32, x1 = v5 + 1 → vp_in x1 L ∧ ∀ x3 : Int32, x3 = xs x1.toNatClampNeg → wL_start (zSl S) σ t1 x3 t3 (fun r5 σ4 => ∀ x6 : Int32, x6 = v5 + 1 → vp_in x6 L ∧ ∀ x8 : Int32, x8 = xs x6.toNatClampNeg → wX12_start (zSl S) σ4 t2 x8 (fun r10 σ9 => wX12_thrown (zSl S) σ9 t2 (fun r12 σ11 => ((r12 = r5 → ((r5 = 0 → vp_in (0 : Int32) ((zSl S) t3) ∧ (((lg_cmp (gl σ11 t3 (0 : Int32).toNatClampNeg) r10.toInt64) = 0 → wL_law_2768 L xs kb28 t1 t2 t3 t4 v5 S σ11) ∧ (¬ (lg_cmp (gl σ11 t3 (0 : Int32).toNatClampNeg) r10.toInt64) = 0 → False))) ∧ (¬ r5 = 0 → wL_law_2768 L xs kb28 t1 t2 t3 t4 v5 S σ11))) ∧ (¬ r12 = r5 → False)))))
def wL_law_2016 (L : Nat) (xs : Nat → Int32) (kb28 : Nat → Nat → Nat → Nat → Int32 → zSp → zS → Prop) (t1 : Nat) (t2 : Nat) (t3 : Nat) (t4 : Nat) (v5 : Int32) (S : zSp) (σ : zS) : Prop := wL_breakIn (zSl S) σ t1 t3 (fun r2 σ1 => wX12_breakIn (zSl S) σ1 t2 (fun r4 σ3 => wX12_thrown (zSl S) σ3 t2 (fun r6 σ5 => ((r6 = r2 → ((r2 = 0 → vp_in (0 : Int32) ((zSl S) t3) ∧ (((lg_cmp (gl σ5 t3 (0 : Int32).toNatClampNeg) r4.toInt64) = 0 → wL_law_2768 L xs kb28 t1 t2 t3 t4 v5 S σ5) ∧ (¬ (lg_cmp (gl σ5 t3 (0 : Int32).toNatClampNeg) r4.toInt64) = 0 → False))) ∧ (¬ r2 = 0 → wL_law_2768 L xs kb28 t1 t2 t3 t4 v5 S σ5))) ∧ (¬ r6 = r2 → False)))))
def wL_law_2060 (L : Nat) (xs : Nat → Int32) (kb28 : Nat → Nat → Nat → Nat → Int32 → zSp → zS → Prop) (t1 : Nat) (t2 : Nat) (t3 : Nat) (t4 : Nat) (v5 : Int32) (S : zSp) (σ : zS) : Prop := ∀ x1 : Int32, x1 = v5 + 1 → vp_in x1 L ∧ ∀ x3 : Int32, x3 = v5 + 2 → vp_in x3 L ∧ ∀ x5 : Int32, x5 = xs x3.toNatClampNeg → ∀ x6 : Int32, x6 = xs x1.toNatClampNeg → wL_setRate (zSl S) σ t1 x6 x5 t3 (fun r8 σ7 => ∀ x9 : Int32, x9 = v5 + 1 → vp_in x9 L ∧ ∀ x11 : Int32, x11 = v5 + 2 → vp_in x11 L ∧ ∀ x13 : Int32, x13 = xs x11.toNatClampNeg → ∀ x14 : Int32, x14 = xs x9.toNatClampNeg → wX12_setRate (zSl S) σ7 t2 x14 x13 (fun r16 σ15 => wX12_thrown (zSl S) σ15 t2 (fun r18 σ17 => ((r18 = r8 → ((r8 = 0 → vp_in (0 : Int32) ((zSl S) t3) ∧ (((lg_cmp (gl σ17 t3 (0 : Int32).toNatClampNeg) r16.toInt64) = 0 → wL_law_2768 L xs kb28 t1 t2 t3 t4 v5 S σ17) ∧ (¬ (lg_cmp (gl σ17 t3 (0 : Int32).toNatClampNeg) r16.toInt64) = 0 → False))) ∧ (¬ r8 = 0 → wL_law_2768 L xs kb28 t1 t2 t3 t4 v5 S σ17))) ∧ (¬ r18 = r8 → False)))))
def wL_law_2128 (L : Nat) (xs : Nat → Int32) (kb28 : Nat → Nat → Nat → Nat → Int32 → zSp → zS → Prop) (t1 : Nat) (t2 : Nat) (t3 : Nat) (t4 : Nat) (v5 : Int32) (S : zSp) (σ : zS) : Prop := ∀ x1 : Int32, x1 = v5 + 1 → vp_in x1 L ∧ ∀ x3 : Int32, x3 = v5 + 2 → vp_in x3 L ∧ ∀ x5 : Int32, x5 = xs x3.toNatClampNeg → ∀ x6 : Int32, x6 = xs x1.toNatClampNeg → wL_nudge (zSl S) σ t1 x6 x5 t3 (fun r8 σ7 => ∀ x9 : Int32, x9 = v5 + 1 → vp_in x9 L ∧ ∀ x11 : Int32, x11 = v5 + 2 → vp_in x11 L ∧ ∀ x13 : Int32, x13 = xs x11.toNatClampNeg → ∀ x14 : Int32, x14 = xs x9.toNatClampNeg → wX12_nudge (zSl S) σ7 t2 x14 x13 (fun r16 σ15 => wX12_thrown (zSl S) σ15 t2 (fun r18 σ17 => ((r18 = r8 → ((r8 = 0 → vp_in (0 : Int32) ((zSl S) t3) ∧ (((lg_cmp (gl σ17 t3 (0 : Int32).toNatClampNeg) r16.toInt64) = 0 → wL_law_2768 L xs kb28 t1 t2 t3 t4 v5 S σ17) ∧ (¬ (lg_cmp (gl σ17 t3 (0 : Int32).toNatClampNeg) r16.toInt64) = 0 → False))) ∧ (¬ r8 = 0 → wL_law_2768 L xs kb28 t1 t2 t3 t4 v5 S σ17))) ∧ (¬ r18 = r8 → False)))))
def wL_law_2196 (L : Nat) (xs : Nat → Int32) (kb28 : Nat → Nat → Nat → Nat → Int32 → zSp → zS → Prop) (t1 : Nat) (t2 : Nat) (t3 : Nat) (t4 : Nat) (v5 : Int32) (S : zSp) (σ : zS) : Prop := ∀ x1 : Int32, x1 = v5 + 1 → vp_in x1 L ∧ ∀ x3 : Int32, x3 = xs x1.toNatClampNeg → wL_setCorrection (zSl S) σ t1 x3 t3 (fun r5 σ4 => ∀ x6 : Int32, x6 = v5 + 1 → vp_in x6 L ∧ ∀ x8 : Int32, x8 = xs x6.toNatClampNeg → wX12_setCorrection (zSl S) σ4 t2 x8 (fun r10 σ9 => wX12_thrown (zSl S) σ9 t2 (fun r12 σ11 => ((r12 = r5 → ((r5 = 0 → vp_in (0 : Int32) ((zSl S) t3) ∧ (((lg_cmp (gl σ11 t3 (0 : Int32).toNatClampNeg) r10.toInt64) = 0 → wL_law_2768 L xs kb28 t1 t2 t3 t4 v5 S σ11) ∧ (¬ (lg_cmp (gl σ11 t3 (0 : Int32).toNatClampNeg) r10.toInt64) = 0 → False))) ∧ (¬ r5 = 0 → wL_law_2768 L xs kb28 t1 t2 t3 t4 v5 S σ11))) ∧ (¬ r12 = r5 → False)))))
def wL_law_2252 (L : Nat) (xs : Nat → Int32) (kb28 : Nat → Nat → Nat → Nat → Int32 → zSp → zS → Prop) (t1 : Nat) (t2 : Nat) (t3 : Nat) (t4 : Nat) (v5 : Int32) (S : zSp) (σ : zS) : Prop := ∀ x1 : Int32, x1 = v5 + 1 → vp_in x1 L ∧ ∀ x3 : Int32, x3 = xs x1.toNatClampNeg → wL_lose (zSl S) σ t1 x3 t3 (fun r5 σ4 => ∀ x6 : Int32, x6 = v5 + 1 → vp_in x6 L ∧ ∀ x8 : Int32, x8 = xs x6.toNatClampNeg → wX12_lose (zSl S) σ4 t2 x8 (fun r10 σ9 => wX12_thrown (zSl S) σ9 t2 (fun r12 σ11 => ((r12 = r5 → ((r5 = 0 → vp_in (0 : Int32) ((zSl S) t3) ∧ (((lg_cmp (gl σ11 t3 (0 : Int32).toNatClampNeg) r10.toInt64) = 0 → wL_law_2768 L xs kb28 t1 t2 t3 t4 v5 S σ11) ∧ (¬ (lg_cmp (gl σ11 t3 (0 : Int32).toNatClampNeg) r10.toInt64) = 0 → False))) ∧ (¬ r5 = 0 → wL_law_2768 L xs kb28 t1 t2 t3 t4 v5 S σ11))) ∧ (¬ r12 = r5 → False)))))
def wL_law_2308 (L : Nat) (xs : Nat → Int32) (kb28 : Nat → Nat → Nat → Nat → Int32 → zSp → zS → Prop) (t1 : Nat) (t2 : Nat) (t3 : Nat) (t4 : Nat) (v5 : Int32) (S : zSp) (σ : zS) : Prop := wL_undo (zSl S) σ t1 t3 (fun r2 σ1 => wX12_undo (zSl S) σ1 t2 (fun r4 σ3 => wX12_thrown (zSl S) σ3 t2 (fun r6 σ5 => ((r6 = r2 → ((r2 = 0 → vp_in (0 : Int32) ((zSl S) t3) ∧ (((lg_cmp (gl σ5 t3 (0 : Int32).toNatClampNeg) r4.toInt64) = 0 → wL_law_2768 L xs kb28 t1 t2 t3 t4 v5 S σ5) ∧ (¬ (lg_cmp (gl σ5 t3 (0 : Int32).toNatClampNeg) r4.toInt64) = 0 → False))) ∧ (¬ r2 = 0 → wL_law_2768 L xs kb28 t1 t2 t3 t4 v5 S σ5))) ∧ (¬ r6 = r2 → False)))))
def wL_law_2352 (L : Nat) (xs : Nat → Int32) (kb28 : Nat → Nat → Nat → Nat → Int32 → zSp → zS → Prop) (t1 : Nat) (t2 : Nat) (t3 : Nat) (t4 : Nat) (v5 : Int32) (S : zSp) (σ : zS) : Prop := ∀ x1 : Int32, x1 = v5 + 1 → vp_in x1 L ∧ ∀ x3 : Int32, x3 = xs x1.toNatClampNeg → wL_misprintsIn (zSl S) σ t1 x3 t3 (fun r5 σ4 => ∀ x6 : Int32, x6 = v5 + 1 → vp_in x6 L ∧ ∀ x8 : Int32, x8 = xs x6.toNatClampNeg → wX12_misprintsIn (zSl S) σ4 t2 x8 (fun r10 σ9 => wX12_thrown (zSl S) σ9 t2 (fun r12 σ11 => ((r12 = r5 → ((r5 = 0 → vp_in (0 : Int32) ((zSl S) t3) ∧ (((lg_cmp (gl σ11 t3 (0 : Int32).toNatClampNeg) r10.toInt64) = 0 → wL_law_2768 L xs kb28 t1 t2 t3 t4 v5 S σ11) ∧ (¬ (lg_cmp (gl σ11 t3 (0 : Int32).toNatClampNeg) r10.toInt64) = 0 → False))) ∧ (¬ r5 = 0 → wL_law_2768 L xs kb28 t1 t2 t3 t4 v5 S σ11))) ∧ (¬ r12 = r5 → False)))))
def wL_law_2408 (L : Nat) (xs : Nat → Int32) (kb28 : Nat → Nat → Nat → Nat → Int32 → zSp → zS → Prop) (t1 : Nat) (t2 : Nat) (t3 : Nat) (t4 : Nat) (v5 : Int32) (S : zSp) (σ : zS) : Prop := ∀ x1 : Int32, x1 = v5 + 1 → vp_in x1 L ∧ ∀ x3 : Int32, x3 = xs x1.toNatClampNeg → wL_ticksUntilDone (zSl S) σ t1 x3 t3 (fun r5 σ4 => ∀ x6 : Int32, x6 = v5 + 1 → vp_in x6 L ∧ ∀ x8 : Int32, x8 = xs x6.toNatClampNeg → wX12_ticksUntilDone (zSl S) σ4 t2 x8 (fun r10 σ9 => wX12_thrown (zSl S) σ9 t2 (fun r12 σ11 => ((r12 = r5 → ((r5 = 0 → vp_in (0 : Int32) ((zSl S) t3) ∧ (((lg_cmp (gl σ11 t3 (0 : Int32).toNatClampNeg) r10.toInt64) = 0 → wL_law_2768 L xs kb28 t1 t2 t3 t4 v5 S σ11) ∧ (¬ (lg_cmp (gl σ11 t3 (0 : Int32).toNatClampNeg) r10.toInt64) = 0 → False))) ∧ (¬ r5 = 0 → wL_law_2768 L xs kb28 t1 t2 t3 t4 v5 S σ11))) ∧ (¬ r12 = r5 → False)))))
def wL_law_2464 (L : Nat) (xs : Nat → Int32) (kb28 : Nat → Nat → Nat → Nat → Int32 → zSp → zS → Prop) (t1 : Nat) (t2 : Nat) (t3 : Nat) (t4 : Nat) (v5 : Int32) (S : zSp) (σ : zS) : Prop := ∀ x1 : Int32, x1 = v5 + 1 → vp_in x1 L ∧ ∀ x3 : Int32, x3 = xs x1.toNatClampNeg → wL_bestCorrection (zSl S) σ t1 x3 t3 (fun r5 σ4 => ∀ x6 : Int32, x6 = v5 + 1 → vp_in x6 L ∧ ∀ x8 : Int32, x8 = xs x6.toNatClampNeg → wX12_bestCorrection (zSl S) σ4 t2 x8 (fun r10 σ9 => wX12_thrown (zSl S) σ9 t2 (fun r12 σ11 => ((r12 = r5 → ((r5 = 0 → vp_in (0 : Int32) ((zSl S) t3) ∧ (((lg_cmp (gl σ11 t3 (0 : Int32).toNatClampNeg) r10.toInt64) = 0 → wL_law_2768 L xs kb28 t1 t2 t3 t4 v5 S σ11) ∧ (¬ (lg_cmp (gl σ11 t3 (0 : Int32).toNatClampNeg) r10.toInt64) = 0 → False))) ∧ (¬ r5 = 0 → wL_law_2768 L xs kb28 t1 t2 t3 t4 v5 S σ11))) ∧ (¬ r12 = r5 → False)))))
def wL_law_2520 (L : Nat) (xs : Nat → Int32) (kb28 : Nat → Nat → Nat → Nat → Int32 → zSp → zS → Prop) (t1 : Nat) (t2 : Nat) (t3 : Nat) (t4 : Nat) (v5 : Int32) (S : zSp) (σ : zS) : Prop := ∀ x1 : Int32, x1 = v5 + 1 → vp_in x1 L ∧ ∀ x3 : Int32, x3 = v5 + 2 → vp_in x3 L ∧ ∀ x5 : Int32, x5 = xs x3.toNatClampNeg → ∀ x6 : Int32, x6 = xs x1.toNatClampNeg → wL_bestRate (zSl S) σ t1 x6 x5 t3 (fun r8 σ7 => ∀ x9 : Int32, x9 = v5 + 1 → vp_in x9 L ∧ ∀ x11 : Int32, x11 = v5 + 2 → vp_in x11 L ∧ ∀ x13 : Int32, x13 = xs x11.toNatClampNeg → ∀ x14 : Int32, x14 = xs x9.toNatClampNeg → wX12_bestRate (zSl S) σ7 t2 x14 x13 (fun r16 σ15 => wX12_thrown (zSl S) σ15 t2 (fun r18 σ17 => ((r18 = r8 → ((r8 = 0 → vp_in (0 : Int32) ((zSl S) t3) ∧ (((lg_cmp (gl σ17 t3 (0 : Int32).toNatClampNeg) r16.toInt64) = 0 → wL_law_2768 L xs kb28 t1 t2 t3 t4 v5 S σ17) ∧ (¬ (lg_cmp (gl σ17 t3 (0 : Int32).toNatClampNeg) r16.toInt64) = 0 → False))) ∧ (¬ r8 = 0 → wL_law_2768 L xs kb28 t1 t2 t3 t4 v5 S σ17))) ∧ (¬ r18 = r8 → False)))))
def wL_law_2588 (L : Nat) (xs : Nat → Int32) (kb28 : Nat → Nat → Nat → Nat → Int32 → zSp → zS → Prop) (t1 : Nat) (t2 : Nat) (t3 : Nat) (t4 : Nat) (v5 : Int32) (S : zSp) (σ : zS) : Prop := ∀ x1 : Int32, x1 = v5 + 1 → vp_in x1 L ∧ ∀ x3 : Int32, x3 = v5 + 2 → vp_in x3 L ∧ ∀ x5 : Int32, x5 = xs x3.toNatClampNeg → ∀ x6 : Int32, x6 = xs x1.toNatClampNeg → wL_bestNudge (zSl S) σ t1 x6 x5 t3 (fun r8 σ7 => ∀ x9 : Int32, x9 = v5 + 1 → vp_in x9 L ∧ ∀ x11 : Int32, x11 = v5 + 2 → vp_in x11 L ∧ ∀ x13 : Int32, x13 = xs x11.toNatClampNeg → ∀ x14 : Int32, x14 = xs x9.toNatClampNeg → wX12_bestNudge (zSl S) σ7 t2 x14 x13 (fun r16 σ15 => wX12_thrown (zSl S) σ15 t2 (fun r18 σ17 => ((r18 = r8 → ((r8 = 0 → vp_in (0 : Int32) ((zSl S) t3) ∧ (((lg_cmp (gl σ17 t3 (0 : Int32).toNatClampNeg) r16.toInt64) = 0 → wL_law_2768 L xs kb28 t1 t2 t3 t4 v5 S σ17) ∧ (¬ (lg_cmp (gl σ17 t3 (0 : Int32).toNatClampNeg) r16.toInt64) = 0 → False))) ∧ (¬ r8 = 0 → wL_law_2768 L xs kb28 t1 t2 t3 t4 v5 S σ17))) ∧ (¬ r18 = r8 → False)))))
def wL_law_2656 (L : Nat) (xs : Nat → Int32) (kb28 : Nat → Nat → Nat → Nat → Int32 → zSp → zS → Prop) (t1 : Nat) (t2 : Nat) (t3 : Nat) (t4 : Nat) (v5 : Int32) (S : zSp) (σ : zS) : Prop := ∀ x1 : Int32, x1 = v5 + 1 → vp_in x1 L ∧ ∀ x3 : Int32, x3 = xs x1.toNatClampNeg → wL_format S σ t1 x3 t3 (fun r5 S4 σ4 => ∀ x6 : Int32, x6 = v5 + 1 → vp_in x6 L ∧ ∀ x8 : Int32, x8 = xs x6.toNatClampNeg → wX12_format (zSl S4) σ4 t2 x8 (fun r10 σ9 => wX12_thrown (zSl S4) σ9 t2 (fun r12 σ11 => ((r12 = r5 → ((r5 = 0 → vp_in (0 : Int32) ((zSl S4) t3) ∧ (((lg_cmp (gl σ11 t3 (0 : Int32).toNatClampNeg) r10.toInt64) = 0 → wL_law_2768 L xs kb28 t1 t2 t3 t4 v5 S4 σ11) ∧ (¬ (lg_cmp (gl σ11 t3 (0 : Int32).toNatClampNeg) r10.toInt64) = 0 → False))) ∧ (¬ r5 = 0 → wL_law_2768 L xs kb28 t1 t2 t3 t4 v5 S4 σ11))) ∧ (¬ r12 = r5 → False)))))
def wL_law_2712 (L : Nat) (xs : Nat → Int32) (kb28 : Nat → Nat → Nat → Nat → Int32 → zSp → zS → Prop) (t1 : Nat) (t2 : Nat) (t3 : Nat) (t4 : Nat) (v5 : Int32) (S : zSp) (σ : zS) : Prop := ∀ x1 : Int32, x1 = v5 + 1 → vp_in x1 L ∧ ∀ x3 : Int32, x3 = xs x1.toNatClampNeg → wL_formattedCharacter (zSl S) σ t1 x3 t3 (fun r5 σ4 => ∀ x6 : Int32, x6 = v5 + 1 → vp_in x6 L ∧ ∀ x8 : Int32, x8 = xs x6.toNatClampNeg → wX12_formattedCharacter (zSl S) σ4 t2 x8 (fun r10 σ9 => wX12_thrown (zSl S) σ9 t2 (fun r12 σ11 => ((r12 = r5 → ((r5 = 0 → vp_in (0 : Int32) ((zSl S) t3) ∧ (((lg_cmp (gl σ11 t3 (0 : Int32).toNatClampNeg) r10.toInt64) = 0 → wL_law_2768 L xs kb28 t1 t2 t3 t4 v5 S σ11) ∧ (¬ (lg_cmp (gl σ11 t3 (0 : Int32).toNatClampNeg) r10.toInt64) = 0 → False))) ∧ (¬ r5 = 0 → wL_law_2768 L xs kb28 t1 t2 t3 t4 v5 S σ11))) ∧ (¬ r12 = r5 → False)))))
def wL_law_28 (L : Nat) (xs : Nat → Int32) : Nat → Nat → Nat → Nat → Nat → Int32 → zSp → zS → Prop
  | 0, _, _, _, _, _, _, _ => False
  | n + 1, t1, t2, t3, t4, v5, S, σ => ((((nI L) - 6) < v5 → True) ∧ (¬ ((nI L) - 6) < v5 → vp_in v5 L ∧ ∀ x2 : Int32, x2 = (xs v5.toNatClampNeg) &&& 63 → ((x2 = 0 → wL_law_272 L xs (wL_law_28 L xs n) t1 t2 t3 t4 v5 S σ) ∧ (¬ x2 = 0 → ((x2 = 1 → wL_law_376 L xs (wL_law_28 L xs n) t1 t2 t3 t4 v5 S σ) ∧ (¬ x2 = 1 → ((x2 = 2 → wL_law_412 L xs (wL_law_28 L xs n) t1 t2 t3 t4 v5 S σ) ∧ (¬ x2 = 2 → ((x2 = 3 → wL_law_456 L xs (wL_law_28 L xs n) t1 t2 t3 t4 v5 S σ) ∧ (¬ x2 = 3 → ((x2 = 4 → wL_law_469 L xs (wL_law_28 L xs n) t1 t2 t3 t4 v5 S σ) ∧ (¬ x2 = 4 → ((x2 = 5 → wL_law_482 L xs (wL_law_28 L xs n) t1 t2 t3 t4 v5 S σ) ∧ (¬ x2 = 5 → ((x2 = 6 → wL_law_495 L xs (wL_law_28 L xs n) t1 t2 t3 t4 v5 S σ) ∧ (¬ x2 = 6 → ((x2 = 7 → wL_law_551 L xs (wL_law_28 L xs n) t1 t2 t3 t4 v5 S σ) ∧ (¬ x2 = 7 → ((x2 = 8 → wL_law_607 L xs (wL_law_28 L xs n) t1 t2 t3 t4 v5 S σ) ∧ (¬ x2 = 8 → ((x2 = 9 → wL_law_663 L xs (wL_law_28 L xs n) t1 t2 t3 t4 v5 S σ) ∧ (¬ x2 = 9 → ((x2 = 10 → wL_law_747 L xs (wL_law_28 L xs n) t1 t2 t3 t4 v5 S σ) ∧ (¬ x2 = 10 → ((x2 = 11 → wL_law_760 L xs (wL_law_28 L xs n) t1 t2 t3 t4 v5 S σ) ∧ (¬ x2 = 11 → ((x2 = 12 → wL_law_816 L xs (wL_law_28 L xs n) t1 t2 t3 t4 v5 S σ) ∧ (¬ x2 = 12 → ((x2 = 13 → wL_law_872 L xs (wL_law_28 L xs n) t1 t2 t3 t4 v5 S σ) ∧ (¬ x2 = 13 → ((x2 = 14 → wL_law_940 L xs (wL_law_28 L xs n) t1 t2 t3 t4 v5 S σ) ∧ (¬ x2 = 14 → ((x2 = 15 → wL_law_1008 L xs (wL_law_28 L xs n) t1 t2 t3 t4 v5 S σ) ∧ (¬ x2 = 15 → ((x2 = 16 → wL_law_1088 L xs (wL_law_28 L xs n) t1 t2 t3 t4 v5 S σ) ∧ (¬ x2 = 16 → ((x2 = 17 → wL_law_1156 L xs (wL_law_28 L xs n) t1 t2 t3 t4 v5 S σ) ∧ (¬ x2 = 17 → ((x2 = 18 → wL_law_1212 L xs (wL_law_28 L xs n) t1 t2 t3 t4 v5 S σ) ∧ (¬ x2 = 18 → ((x2 = 19 → wL_law_1225 L xs (wL_law_28 L xs n) t1 t2 t3 t4 v5 S σ) ∧ (¬ x2 = 19 → ((x2 = 20 → wL_law_1238 L xs (wL_law_28 L xs n) t1 t2 t3 t4 v5 S σ) ∧ (¬ x2 = 20 → ((x2 = 21 → wL_law_1251 L xs (wL_law_28 L xs n) t1 t2 t3 t4 v5 S σ) ∧ (¬ x2 = 21 → ((x2 = 22 → wL_law_1264 L xs (wL_law_28 L xs n) t1 t2 t3 t4 v5 S σ) ∧ (¬ x2 = 22 → ((x2 = 23 → wL_law_1277 L xs (wL_law_28 L xs n) t1 t2 t3 t4 v5 S σ) ∧ (¬ x2 = 23 → ((x2 = 24 → wL_law_1290 L xs (wL_law_28 L xs n) t1 t2 t3 t4 v5 S σ) ∧ (¬ x2 = 24 → ((x2 = 25 → wL_law_1303 L xs (wL_law_28 L xs n) t1 t2 t3 t4 v5 S σ) ∧ (¬ x2 = 25 → ((x2 = 26 → wL_law_1316 L xs (wL_law_28 L xs n) t1 t2 t3 t4 v5 S σ) ∧ (¬ x2 = 26 → ((x2 = 27 → wL_law_1372 L xs (wL_law_28 L xs n) t1 t2 t3 t4 v5 S σ) ∧ (¬ x2 = 27 → ((x2 = 28 → wL_law_1428 L xs (wL_law_28 L xs n) t1 t2 t3 t4 v5 S σ) ∧ (¬ x2 = 28 → ((x2 = 29 → wL_law_1496 L xs (wL_law_28 L xs n) t1 t2 t3 t4 v5 S σ) ∧ (¬ x2 = 29 → ((x2 = 30 → wL_law_1509 L xs (wL_law_28 L xs n) t1 t2 t3 t4 v5 S σ) ∧ (¬ x2 = 30 → ((x2 = 31 → wL_law_1522 L xs (wL_law_28 L xs n) t1 t2 t3 t4 v5 S σ) ∧ (¬ x2 = 31 → ((x2 = 32 → wL_law_1578 L xs (wL_law_28 L xs n) t1 t2 t3 t4 v5 S σ) ∧ (¬ x2 = 32 → ((x2 = 33 → wL_law_1634 L xs (wL_law_28 L xs n) t1 t2 t3 t4 v5 S σ) ∧ (¬ x2 = 33 → ((x2 = 34 → wL_law_1690 L xs (wL_law_28 L xs n) t1 t2 t3 t4 v5 S σ) ∧ (¬ x2 = 34 → ((x2 = 35 → wL_law_1767 L xs (wL_law_28 L xs n) t1 t2 t3 t4 v5 S σ) ∧ (¬ x2 = 35 → ((x2 = 36 → wL_law_1780 L xs (wL_law_28 L xs n) t1 t2 t3 t4 v5 S σ) ∧ (¬ x2 = 36 → ((x2 = 37 → wL_law_1848 L xs (wL_law_28 L xs n) t1 t2 t3 t4 v5 S σ) ∧ (¬ x2 = 37 → ((x2 = 38 → wL_law_1904 L xs (wL_law_28 L xs n) t1 t2 t3 t4 v5 S σ) ∧ (¬ x2 = 38 → ((x2 = 39 → wL_law_1960 L xs (wL_law_28 L xs n) t1 t2 t3 t4 v5 S σ) ∧ (¬ x2 = 39 → ((x2 = 40 → wL_law_2016 L xs (wL_law_28 L xs n) t1 t2 t3 t4 v5 S σ) ∧ (¬ x2 = 40 → ((x2 = 41 → wL_law_2060 L xs (wL_law_28 L xs n) t1 t2 t3 t4 v5 S σ) ∧ (¬ x2 = 41 → ((x2 = 42 → wL_law_2128 L xs (wL_law_28 L xs n) t1 t2 t3 t4 v5 S σ) ∧ (¬ x2 = 42 → ((x2 = 43 → wL_law_2196 L xs (wL_law_28 L xs n) t1 t2 t3 t4 v5 S σ) ∧ (¬ x2 = 43 → ((x2 = 44 → wL_law_2252 L xs (wL_law_28 L xs n) t1 t2 t3 t4 v5 S σ) ∧ (¬ x2 = 44 → ((x2 = 45 → wL_law_2308 L xs (wL_law_28 L xs n) t1 t2 t3 t4 v5 S σ) ∧ (¬ x2 = 45 → ((x2 = 46 → wL_law_2352 L xs (wL_law_28 L xs n) t1 t2 t3 t4 v5 S σ) ∧ (¬ x2 = 46 → ((x2 = 47 → wL_law_2408 L xs (wL_law_28 L xs n) t1 t2 t3 t4 v5 S σ) ∧ (¬ x2 = 47 → ((x2 = 48 → wL_law_2464 L xs (wL_law_28 L xs n) t1 t2 t3 t4 v5 S σ) ∧ (¬ x2 = 48 → ((x2 = 49 → wL_law_2520 L xs (wL_law_28 L xs n) t1 t2 t3 t4 v5 S σ) ∧ (¬ x2 = 49 → ((x2 = 50 → wL_law_2588 L xs (wL_law_28 L xs n) t1 t2 t3 t4 v5 S σ) ∧ (¬ x2 = 50 → ((x2 = 51 → wL_law_2656 L xs (wL_law_28 L xs n) t1 t2 t3 t4 v5 S σ) ∧ (¬ x2 = 51 → ((x2 = 52 → wL_law_2712 L xs (wL_law_28 L xs n) t1 t2 t3 t4 v5 S σ) ∧ (¬ x2 = 52 → wL_law_2768 L xs (wL_law_28 L xs n) t1 t2 t3 t4 v5 S σ))))))))))))))))))))))))))))))))))))))))))))))))))))))))))))))))))))))))))))))))))))))))))))))))))))))))))))
def wL_law (L : Nat) (xs : Nat → Int32) (S : zSp) (σ : zS) : Prop := ∀ a1 : Nat, a1 = zSk S → ∀ S1 : zSp, S1 = zSpush S 11 0 → ∀ σ2 : zS, σ2 = zfresh σ a1 → wX11_init S1 σ2 a1 (fun S3 σ3 => ∀ a5 : Nat, a5 = zSk S3 → ∀ S5 : zSp, S5 = zSpush S3 12 0 → ∀ σ6 : zS, σ6 = zfresh σ3 a5 → wX12_init S5 σ6 a5 (fun S7 σ7 => ∀ a9 : Nat, a9 = zSk S7 → ∀ S9 : zSp, S9 = zSpush S7 24 1 → ∀ σ10 : zS, σ10 = zfresh σ7 a9 → ∀ a11 : Nat, a11 = zSk S9 → ∀ S11 : zSp, S11 = zSpush S9 25 1 → ∀ σ12 : zS, σ12 = zfresh σ10 a11 → ∃ n13 : Nat, n13 ≤ 514 ∧ wL_law_28 L xs n13 a1 a5 a9 a11 0 S11 σ12))
set_option maxRecDepth 100000 in
set_option maxHeartbeats 4000000 in
theorem BL_law_2768 {l : Launch} (hlt : l.stackTraces = false) {E : zE} {Y0 : zY} {p : Program} {e : Env} {s : State} {m : MethodId} {b L : Nat} {xs : Nat → Int32} {below : List Frame} {meth : Method} {c : Code} (hG : zG E p l s m #[Value.ref b] meth c cL_law 9 RL (some .boolean) (zA Y0 s.heap.size)) (hsc : zLaw b L xs s Y0) {nf : Nat} {kb28 : Nat → Nat → Nat → Nat → Int32 → zSp → zS → Prop} (hkb28 : ∀ (t1 : Nat) (t2 : Nat) (t3 : Nat) (t4 : Nat) (v5 : Int32) (Y : zY) (σ : zS) (cl sl : Nat), kb28 t1 t2 t3 t4 v5 (zsp Y) σ → zext Y0 Y → zT Y 11 t1 → zT Y 12 t2 → zT Y 24 t3 → zT Y 25 t4 → cl + (nf * 50 + 0) ≤ 601024 → sl + (nf * 7356 + 0) ≤ 7293034 → WW E Y σ p l e room_1 s m #[Value.ref b] below meth c (zA Y0 s.heap.size) 9 cl sl (lw_Z below #[Value.ref b] s) [(0, .ref b), (1, .ref (za Y t1)), (2, .ref (za Y t2)), (3, .ref (za Y t3)), (4, .ref (za Y t4)), (5, .int v5)] 28 []) : ∀ (t1 : Nat) (t2 : Nat) (t3 : Nat) (t4 : Nat) (v5 : Int32) (Y : zY) (σ : zS) (cl sl : Nat), wL_law_2768 L xs kb28 t1 t2 t3 t4 v5 (zsp Y) σ → zext Y0 Y → zT Y 11 t1 → zT Y 12 t2 → zT Y 24 t3 → zT Y 25 t4 → cl + (0 + (nf * 50 + 0)) ≤ 601024 → sl + (0 + (nf * 7356 + 0)) ≤ 7293034 → WW E Y σ p l e room_1 s m #[Value.ref b] below meth c (zA Y0 s.heap.size) 9 cl sl (lw_Z below #[Value.ref b] s) [(0, .ref b), (1, .ref (za Y t1)), (2, .ref (za Y t2)), (3, .ref (za Y t3)), (4, .ref (za Y t4)), (5, .int v5)] 2768 [] := by
  intro t1 t2 t3 t4 v5 Y σ cl sl hw hx h1 h2 h3 h4 hcl hsl
  unfold wL_law_2768 at hw
  obtain ⟨x1, ex1⟩ : ∃ y : Int32, y = v5 + 6 := ⟨_, rfl⟩
  have hw := hw x1 ex1
  refine z_iinc (v := x1) (lv' := [(5, .int x1), (0, .ref b), (1, .ref (za Y t1)), (2, .ref (za Y t2)), (3, .ref (za Y t3)), (4, .ref (za Y t4))]) hG dL_law_2768 5 rfl (by rw [ex1]; rfl) (by decide) rfl ?_
  refine z_goto (tgt := 28) hG dL_law_2771 (by decide) ?_
  refine zpick [1, 2, 3, 4, 5, 0] (lv' := [(0, .ref b), (1, .ref (za Y t1)), (2, .ref (za Y t2)), (3, .ref (za Y t3)), (4, .ref (za Y t4)), (5, .int x1)]) rfl ?_
  exact hkb28 t1 t2 t3 t4 x1 Y σ _ _ hw hx h1 h2 h3 h4 (by omega) (by omega)
set_option maxRecDepth 100000 in
set_option maxHeartbeats 4000000 in
theorem BL_law_272 {l : Launch} (hlt : l.stackTraces = false) {E : zE} {Y0 : zY} {p : Program} {e : Env} {s : State} {m : MethodId} {b L : Nat} {xs : Nat → Int32} {below : List Frame} {meth : Method} {c : Code} (hG : zG E p l s m #[Value.ref b] meth c cL_law 9 RL (some .boolean) (zA Y0 s.heap.size)) (hsc : zLaw b L xs s Y0) {nf : Nat} {kb28 : Nat → Nat → Nat → Nat → Int32 → zSp → zS → Prop} (hkb28 : ∀ (t1 : Nat) (t2 : Nat) (t3 : Nat) (t4 : Nat) (v5 : Int32) (Y : zY) (σ : zS) (cl sl : Nat), kb28 t1 t2 t3 t4 v5 (zsp Y) σ → zext Y0 Y → zT Y 11 t1 → zT Y 12 t2 → zT Y 24 t3 → zT Y 25 t4 → cl + (nf * 50 + 0) ≤ 601024 → sl + (nf * 7356 + 0) ≤ 7293034 → WW E Y σ p l e room_1 s m #[Value.ref b] below meth c (zA Y0 s.heap.size) 9 cl sl (lw_Z below #[Value.ref b] s) [(0, .ref b), (1, .ref (za Y t1)), (2, .ref (za Y t2)), (3, .ref (za Y t3)), (4, .ref (za Y t4)), (5, .int v5)] 28 []) : ∀ (t1 : Nat) (t2 : Nat) (t3 : Nat) (t4 : Nat) (v5 : Int32) (Y : zY) (σ : zS) (cl sl : Nat), wL_law_272 L xs kb28 t1 t2 t3 t4 v5 (zsp Y) σ → zext Y0 Y → zT Y 11 t1 → zT Y 12 t2 → zT Y 24 t3 → zT Y 25 t4 → cl + (1 + (nf * 50 + 0)) ≤ 601024 → sl + (6 + (nf * 7356 + 0)) ≤ 7293034 → WW E Y σ p l e room_1 s m #[Value.ref b] below meth c (zA Y0 s.heap.size) 9 cl sl (lw_Z below #[Value.ref b] s) [(0, .ref b), (1, .ref (za Y t1)), (2, .ref (za Y t2)), (3, .ref (za Y t3)), (4, .ref (za Y t4)), (5, .int v5)] 272 [] := by
  intro t1 t2 t3 t4 v5 Y σ cl sl hw hx h1 h2 h3 h4 hcl hsl
  unfold wL_law_272 at hw
  refine z_aload_n hG dL_law_272 rfl 1 rfl ?_
  refine z_aload_n hG dL_law_273 rfl 0 rfl ?_
  refine z_iload hG dL_law_274 5 rfl ?_
  refine z_iconst (v := 1) hG dL_law_276 (by decide) ?_
  refine z_iadd hG dL_law_277 ?_
  refine z_topi (fun x1 ex1 => ?_)
  have hw := hw x1 ex1
  obtain ⟨q2, hw⟩ := hw
  refine z_lawld hG hsc q2 dL_law_278 ?_
  refine z_aload_n hG dL_law_279 rfl 0 rfl ?_
  refine z_iload hG dL_law_280 5 rfl ?_
  refine z_iconst (v := 2) hG dL_law_282 (by decide) ?_
  refine z_iadd hG dL_law_283 ?_
  refine z_topi (fun x3 ex3 => ?_)
  have hw := hw x3 ex3
  obtain ⟨q4, hw⟩ := hw
  refine z_lawld hG hsc q4 dL_law_284 ?_
  refine z_aload_n hG dL_law_285 rfl 0 rfl ?_
  refine z_iload hG dL_law_286 5 rfl ?_
  refine z_iconst (v := 3) hG dL_law_288 (by decide) ?_
  refine z_iadd hG dL_law_289 ?_
  refine z_topi (fun x5 ex5 => ?_)
  have hw := hw x5 ex5
  obtain ⟨q6, hw⟩ := hw
  refine z_lawld hG hsc q6 dL_law_290 ?_
  refine z_aload_n hG dL_law_291 rfl 0 rfl ?_
  refine z_iload hG dL_law_292 5 rfl ?_
  refine z_iconst (v := 4) hG dL_law_294 (by decide) ?_
  refine z_iadd hG dL_law_295 ?_
  refine z_topi (fun x7 ex7 => ?_)
  have hw := hw x7 ex7
  obtain ⟨q8, hw⟩ := hw
  refine z_lawld hG hsc q8 dL_law_296 ?_
  refine z_aload_n hG dL_law_297 rfl 0 rfl ?_
  refine z_iload hG dL_law_298 5 rfl ?_
  refine z_iconst (v := 5) hG dL_law_300 (by decide) ?_
  refine z_iadd hG dL_law_301 ?_
  refine z_topi (fun x9 ex9 => ?_)
  have hw := hw x9 ex9
  obtain ⟨q10, hw⟩ := hw
  refine z_lawld hG hsc q10 dL_law_302 ?_
  refine z_aload_n hG dL_law_303 rfl 3 rfl ?_
  obtain ⟨x11, ex11⟩ : ∃ y : Int32, y = xs x9.toNatClampNeg := ⟨_, rfl⟩
  refine zst (st' := [.ref (za Y t3), .int x11, .int (xs x7.toNatClampNeg), .int (xs x5.toNatClampNeg), .int (xs x3.toNatClampNeg), .int (xs x1.toNatClampNeg), .ref (za Y t1)]) (by rw [ex11] <;> rfl) ?_
  have hw := hw x11 ex11
  obtain ⟨x12, ex12⟩ : ∃ y : Int32, y = xs x7.toNatClampNeg := ⟨_, rfl⟩
  refine zst (st' := [.ref (za Y t3), .int x11, .int x12, .int (xs x5.toNatClampNeg), .int (xs x3.toNatClampNeg), .int (xs x1.toNatClampNeg), .ref (za Y t1)]) (by rw [ex12] <;> rfl) ?_
  have hw := hw x12 ex12
  obtain ⟨x13, ex13⟩ : ∃ y : Int32, y = xs x5.toNatClampNeg := ⟨_, rfl⟩
  refine zst (st' := [.ref (za Y t3), .int x11, .int x12, .int x13, .int (xs x3.toNatClampNeg), .int (xs x1.toNatClampNeg), .ref (za Y t1)]) (by rw [ex13] <;> rfl) ?_
  have hw := hw x13 ex13
  obtain ⟨x14, ex14⟩ : ∃ y : Int32, y = xs x3.toNatClampNeg := ⟨_, rfl⟩
  refine zst (st' := [.ref (za Y t3), .int x11, .int x12, .int x13, .int x14, .int (xs x1.toNatClampNeg), .ref (za Y t1)]) (by rw [ex14] <;> rfl) ?_
  have hw := hw x14 ex14
  obtain ⟨x15, ex15⟩ : ∃ y : Int32, y = xs x1.toNatClampNeg := ⟨_, rfl⟩
  refine zst (st' := [.ref (za Y t3), .int x11, .int x12, .int x13, .int x14, .int x15, .ref (za Y t1)]) (by rw [ex15] <;> rfl) ?_
  have hw := hw x15 ex15
  refine z_callCi hG (z_runSH (As := [.ref (za Y t1), .int x15, .int x14, .int x13, .int x12, .int x11, .ref (za Y t3)]) (st := []) hG k_L_143 (ML_append l hlt h1 h3 hw) ⟨(Nat.le_of_ble_eq_true rfl), (Nat.le_of_ble_eq_true rfl)⟩ rfl (Nat.le_of_ble_eq_true rfl) dL_law_304 ⟨show cl + 0 + 1 ≤ 601024 from by omega, show sl + 0 + 6 ≤ 7293034 from by omega⟩ rfl) (fun r17 σ16 hw => ?_)
  refine zwiden (k := cl + 1) (n := sl + 6) (show cl + 0 + 1 ≤ cl + 1 from by omega) (show sl + 0 + 6 ≤ sl + 6 from by omega) ?_
  refine z_istore (lv' := [(6, .int r17), (0, .ref b), (1, .ref (za Y t1)), (2, .ref (za Y t2)), (3, .ref (za Y t3)), (4, .ref (za Y t4)), (5, .int v5)]) hG dL_law_307 (by decide) rfl ?_
  refine z_aload_n hG dL_law_309 rfl 3 rfl ?_
  refine z_aload_n hG dL_law_310 rfl 1 rfl ?_
  refine z_iload hG dL_law_311 6 rfl ?_
  refine z_iconst (v := 1) hG dL_law_313 (by decide) ?_
  refine z_iadd hG dL_law_314 ?_
  refine z_topi (fun x18 ex18 => ?_)
  have hw := hw x18 ex18
  obtain ⟨q19, hw⟩ := hw
  refine z_lawld hG hsc q19 dL_law_315 ?_
  refine z_aload_n hG dL_law_316 rfl 1 rfl ?_
  refine z_iload hG dL_law_317 6 rfl ?_
  refine z_iconst (v := 2) hG dL_law_319 (by decide) ?_
  refine z_iadd hG dL_law_320 ?_
  refine z_topi (fun x20 ex20 => ?_)
  have hw := hw x20 ex20
  obtain ⟨q21, hw⟩ := hw
  refine z_lawld hG hsc q21 dL_law_321 ?_
  refine z_aload_n hG dL_law_322 rfl 1 rfl ?_
  refine z_iload hG dL_law_323 6 rfl ?_
  refine z_iconst (v := 3) hG dL_law_325 (by decide) ?_
  refine z_iadd hG dL_law_326 ?_
  refine z_topi (fun x22 ex22 => ?_)
  have hw := hw x22 ex22
  obtain ⟨q23, hw⟩ := hw
  refine z_lawld hG hsc q23 dL_law_327 ?_
  refine z_aload_n hG dL_law_328 rfl 1 rfl ?_
  refine z_iload hG dL_law_329 6 rfl ?_
  refine z_iconst (v := 4) hG dL_law_331 (by decide) ?_
  refine z_iadd hG dL_law_332 ?_
  refine z_topi (fun x24 ex24 => ?_)
  have hw := hw x24 ex24
  obtain ⟨q25, hw⟩ := hw
  refine z_lawld hG hsc q25 dL_law_333 ?_
  refine z_aload_n hG dL_law_334 rfl 1 rfl ?_
  refine z_iload hG dL_law_335 6 rfl ?_
  refine z_iconst (v := 5) hG dL_law_337 (by decide) ?_
  refine z_iadd hG dL_law_338 ?_
  refine z_topi (fun x26 ex26 => ?_)
  have hw := hw x26 ex26
  obtain ⟨q27, hw⟩ := hw
  refine z_lawld hG hsc q27 dL_law_339 ?_
  refine z_topi (fun x28 ex28 => ?_)
  have hw := hw x28 ex28
  obtain ⟨x29, ex29⟩ : ∃ y : Int32, y = xs x24.toNatClampNeg := ⟨_, rfl⟩
  refine zst (st' := [.int x28, .int x29, .int (xs x22.toNatClampNeg), .int (xs x20.toNatClampNeg), .int (xs x18.toNatClampNeg), .ref (za Y t2)]) (by rw [ex29] <;> rfl) ?_
  have hw := hw x29 ex29
  obtain ⟨x30, ex30⟩ : ∃ y : Int32, y = xs x22.toNatClampNeg := ⟨_, rfl⟩
  refine zst (st' := [.int x28, .int x29, .int x30, .int (xs x20.toNatClampNeg), .int (xs x18.toNatClampNeg), .ref (za Y t2)]) (by rw [ex30] <;> rfl) ?_
  have hw := hw x30 ex30
  obtain ⟨x31, ex31⟩ : ∃ y : Int32, y = xs x20.toNatClampNeg := ⟨_, rfl⟩
  refine zst (st' := [.int x28, .int x29, .int x30, .int x31, .int (xs x18.toNatClampNeg), .ref (za Y t2)]) (by rw [ex31] <;> rfl) ?_
  have hw := hw x31 ex31
  obtain ⟨x32, ex32⟩ : ∃ y : Int32, y = xs x18.toNatClampNeg := ⟨_, rfl⟩
  refine zst (st' := [.int x28, .int x29, .int x30, .int x31, .int x32, .ref (za Y t2)]) (by rw [ex32] <;> rfl) ?_
  have hw := hw x32 ex32
  refine z_calli hG (z_runV (As := [.int x32, .int x31, .int x30, .int x29, .int x28]) (st := []) hG k_L_148 (MX12_append l h2 hw) ⟨(Nat.le_of_ble_eq_true rfl), (Nat.le_of_ble_eq_true rfl)⟩ h2 (T := TX12) (N := 23) rfl (by decide) rfl (Nat.le_of_ble_eq_true rfl) dL_law_340 ⟨show cl + 1 + 0 ≤ 601024 from by omega, show sl + 6 + 0 ≤ 7293034 from by omega⟩ rfl) (fun r34 σ33 hw => ?_)
  refine z_istore (lv' := [(7, .int r34), (6, .int r17), (0, .ref b), (1, .ref (za Y t1)), (2, .ref (za Y t2)), (3, .ref (za Y t3)), (4, .ref (za Y t4)), (5, .int v5)]) hG dL_law_343 (by decide) rfl ?_
  refine z_aload_n hG dL_law_345 rfl 4 rfl ?_
  refine z_calli hG (z_runV (As := []) (st := []) hG k_L_149 (MX12_thrown l h2 hw) ⟨(Nat.le_of_ble_eq_true rfl), (Nat.le_of_ble_eq_true rfl)⟩ h2 (T := TX12) (N := 23) rfl (by decide) rfl (Nat.le_of_ble_eq_true rfl) dL_law_346 ⟨show cl + 1 + 0 ≤ 601024 from by omega, show sl + 6 + 0 ≤ 7293034 from by omega⟩ rfl) (fun r36 σ35 hw => ?_)
  refine z_iload hG dL_law_349 1 rfl ?_
  refine z_icmp_eq (tgt := 356) hG dL_law_351 (by decide) (fun c40 => ?_) (fun c40 => ?_)
  · have hw := hw.1 c40
    refine z_iload hG dL_law_356 1 rfl ?_
    refine z_if_ne (tgt := 373) hG dL_law_358 (by decide) (fun c39 => ?_) (fun c39 => ?_)
    · have hw := hw.2 c39
      refine z_goto (tgt := 2768) hG dL_law_373 (by decide) ?_
      refine zpick [2, 3, 4, 5, 6, 7] (lv' := [(0, .ref b), (1, .ref (za Y t1)), (2, .ref (za Y t2)), (3, .ref (za Y t3)), (4, .ref (za Y t4)), (5, .int v5)]) rfl ?_
      refine zwiden (k := cl + 1) (n := sl + 6) (by omega) (by omega) ?_
      exact BL_law_2768 hlt hG hsc hkb28 t1 t2 t3 t4 v5 Y σ35 _ _ hw hx h1 h2 h3 h4 (by omega) (by omega)
    · have hw := hw.1 c39
      refine z_aload_n hG dL_law_361 rfl 5 rfl ?_
      refine z_iconst (v := 0) hG dL_law_362 (by decide) ?_
      obtain ⟨q37, hw⟩ := hw
      refine z_lald hG h3 q37 dL_law_363 ?_
      refine z_iload hG dL_law_364 0 rfl ?_
      refine z_i2l hG dL_law_366 ?_
      refine z_lcmp hG dL_law_367 ?_
      refine z_if_eq (tgt := 373) hG dL_law_368 (by decide) (fun c38 => ?_) (fun c38 => ?_)
      · have hw := hw.1 c38
        refine z_goto (tgt := 2768) hG dL_law_373 (by decide) ?_
        refine zpick [2, 3, 4, 5, 6, 7] (lv' := [(0, .ref b), (1, .ref (za Y t1)), (2, .ref (za Y t2)), (3, .ref (za Y t3)), (4, .ref (za Y t4)), (5, .int v5)]) rfl ?_
        refine zwiden (k := cl + 1) (n := sl + 6) (by omega) (by omega) ?_
        exact BL_law_2768 hlt hG hsc hkb28 t1 t2 t3 t4 v5 Y σ35 _ _ hw hx h1 h2 h3 h4 (by omega) (by omega)
      · have hw := hw.2 c38
        refine z_iconst (v := 0) hG dL_law_371 (by decide) ?_
        exact hw.elim
  · have hw := hw.2 c40
    refine z_iconst (v := 0) hG dL_law_354 (by decide) ?_
    exact hw.elim
set_option maxRecDepth 100000 in
set_option maxHeartbeats 4000000 in
theorem BL_law_376 {l : Launch} (hlt : l.stackTraces = false) {E : zE} {Y0 : zY} {p : Program} {e : Env} {s : State} {m : MethodId} {b L : Nat} {xs : Nat → Int32} {below : List Frame} {meth : Method} {c : Code} (hG : zG E p l s m #[Value.ref b] meth c cL_law 9 RL (some .boolean) (zA Y0 s.heap.size)) (hsc : zLaw b L xs s Y0) {nf : Nat} {kb28 : Nat → Nat → Nat → Nat → Int32 → zSp → zS → Prop} (hkb28 : ∀ (t1 : Nat) (t2 : Nat) (t3 : Nat) (t4 : Nat) (v5 : Int32) (Y : zY) (σ : zS) (cl sl : Nat), kb28 t1 t2 t3 t4 v5 (zsp Y) σ → zext Y0 Y → zT Y 11 t1 → zT Y 12 t2 → zT Y 24 t3 → zT Y 25 t4 → cl + (nf * 50 + 0) ≤ 601024 → sl + (nf * 7356 + 0) ≤ 7293034 → WW E Y σ p l e room_1 s m #[Value.ref b] below meth c (zA Y0 s.heap.size) 9 cl sl (lw_Z below #[Value.ref b] s) [(0, .ref b), (1, .ref (za Y t1)), (2, .ref (za Y t2)), (3, .ref (za Y t3)), (4, .ref (za Y t4)), (5, .int v5)] 28 []) : ∀ (t1 : Nat) (t2 : Nat) (t3 : Nat) (t4 : Nat) (v5 : Int32) (Y : zY) (σ : zS) (cl sl : Nat), wL_law_376 L xs kb28 t1 t2 t3 t4 v5 (zsp Y) σ → zext Y0 Y → zT Y 11 t1 → zT Y 12 t2 → zT Y 24 t3 → zT Y 25 t4 → cl + (1 + (nf * 50 + 0)) ≤ 601024 → sl + (6 + (nf * 7356 + 0)) ≤ 7293034 → WW E Y σ p l e room_1 s m #[Value.ref b] below meth c (zA Y0 s.heap.size) 9 cl sl (lw_Z below #[Value.ref b] s) [(0, .ref b), (1, .ref (za Y t1)), (2, .ref (za Y t2)), (3, .ref (za Y t3)), (4, .ref (za Y t4)), (5, .int v5)] 376 [] := by
  intro t1 t2 t3 t4 v5 Y σ cl sl hw hx h1 h2 h3 h4 hcl hsl
  unfold wL_law_376 at hw
  refine z_aload_n hG dL_law_376 rfl 1 rfl ?_
  refine z_aload_n hG dL_law_377 rfl 0 rfl ?_
  refine z_iload hG dL_law_378 5 rfl ?_
  refine z_iconst (v := 1) hG dL_law_380 (by decide) ?_
  refine z_iadd hG dL_law_381 ?_
  refine z_topi (fun x1 ex1 => ?_)
  have hw := hw x1 ex1
  obtain ⟨q2, hw⟩ := hw
  refine z_lawld hG hsc q2 dL_law_382 ?_
  refine z_topi (fun x3 ex3 => ?_)
  have hw := hw x3 ex3
  refine z_callCi hG (z_runSH (As := [.ref (za Y t1), .int x3]) (st := []) hG k_L_152 (ML_truncate l hlt h1 hw) ⟨(Nat.le_of_ble_eq_true rfl), (Nat.le_of_ble_eq_true rfl)⟩ rfl (Nat.le_of_ble_eq_true rfl) dL_law_383 ⟨show cl + 0 + 1 ≤ 601024 from by omega, show sl + 0 + 6 ≤ 7293034 from by omega⟩ rfl) (fun r5 σ4 hw => ?_)
  refine zwiden (k := cl + 1) (n := sl + 6) (show cl + 0 + 1 ≤ cl + 1 from by omega) (show sl + 0 + 6 ≤ sl + 6 from by omega) ?_
  refine z_istore (lv' := [(6, .int r5), (0, .ref b), (1, .ref (za Y t1)), (2, .ref (za Y t2)), (3, .ref (za Y t3)), (4, .ref (za Y t4)), (5, .int v5)]) hG dL_law_386 (by decide) rfl ?_
  refine z_aload_n hG dL_law_388 rfl 3 rfl ?_
  refine z_aload_n hG dL_law_389 rfl 1 rfl ?_
  refine z_iload hG dL_law_390 6 rfl ?_
  refine z_iconst (v := 1) hG dL_law_392 (by decide) ?_
  refine z_iadd hG dL_law_393 ?_
  refine z_topi (fun x6 ex6 => ?_)
  have hw := hw x6 ex6
  obtain ⟨q7, hw⟩ := hw
  refine z_lawld hG hsc q7 dL_law_394 ?_
  refine z_topi (fun x8 ex8 => ?_)
  have hw := hw x8 ex8
  refine z_callv hG (z_runV (As := [.int x8]) (st := []) hG k_L_155 (MX12_truncate l h2 hw) ⟨(Nat.le_of_ble_eq_true rfl), (Nat.le_of_ble_eq_true rfl)⟩ h2 (T := TX12) (N := 23) rfl (by decide) rfl (Nat.le_of_ble_eq_true rfl) dL_law_395 ⟨show cl + 1 + 0 ≤ 601024 from by omega, show sl + 6 + 0 ≤ 7293034 from by omega⟩ rfl) (fun σ9 hw => ?_)
  refine z_aload_n hG dL_law_398 rfl 3 rfl ?_
  refine z_calli hG (z_runV (As := []) (st := []) hG k_L_149 (MX12_thrown l h2 hw) ⟨(Nat.le_of_ble_eq_true rfl), (Nat.le_of_ble_eq_true rfl)⟩ h2 (T := TX12) (N := 23) rfl (by decide) rfl (Nat.le_of_ble_eq_true rfl) dL_law_399 ⟨show cl + 1 + 0 ≤ 601024 from by omega, show sl + 6 + 0 ≤ 7293034 from by omega⟩ rfl) (fun r11 σ10 hw => ?_)
  refine z_iload hG dL_law_402 0 rfl ?_
  refine z_icmp_eq (tgt := 409) hG dL_law_404 (by decide) (fun c12 => ?_) (fun c12 => ?_)
  · have hw := hw.1 c12
    refine z_goto (tgt := 2768) hG dL_law_409 (by decide) ?_
    refine zpick [1, 2, 3, 4, 5, 6] (lv' := [(0, .ref b), (1, .ref (za Y t1)), (2, .ref (za Y t2)), (3, .ref (za Y t3)), (4, .ref (za Y t4)), (5, .int v5)]) rfl ?_
    refine zwiden (k := cl + 1) (n := sl + 6) (by omega) (by omega) ?_
    exact BL_law_2768 hlt hG hsc hkb28 t1 t2 t3 t4 v5 Y σ10 _ _ hw hx h1 h2 h3 h4 (by omega) (by omega)
  · have hw := hw.2 c12
    refine z_iconst (v := 0) hG dL_law_407 (by decide) ?_
    exact hw.elim
set_option maxRecDepth 100000 in
set_option maxHeartbeats 4000000 in
theorem BL_law_412 {l : Launch} (hlt : l.stackTraces = false) {E : zE} {Y0 : zY} {p : Program} {e : Env} {s : State} {m : MethodId} {b L : Nat} {xs : Nat → Int32} {below : List Frame} {meth : Method} {c : Code} (hG : zG E p l s m #[Value.ref b] meth c cL_law 9 RL (some .boolean) (zA Y0 s.heap.size)) (hsc : zLaw b L xs s Y0) {nf : Nat} {kb28 : Nat → Nat → Nat → Nat → Int32 → zSp → zS → Prop} (hkb28 : ∀ (t1 : Nat) (t2 : Nat) (t3 : Nat) (t4 : Nat) (v5 : Int32) (Y : zY) (σ : zS) (cl sl : Nat), kb28 t1 t2 t3 t4 v5 (zsp Y) σ → zext Y0 Y → zT Y 11 t1 → zT Y 12 t2 → zT Y 24 t3 → zT Y 25 t4 → cl + (nf * 50 + 0) ≤ 601024 → sl + (nf * 7356 + 0) ≤ 7293034 → WW E Y σ p l e room_1 s m #[Value.ref b] below meth c (zA Y0 s.heap.size) 9 cl sl (lw_Z below #[Value.ref b] s) [(0, .ref b), (1, .ref (za Y t1)), (2, .ref (za Y t2)), (3, .ref (za Y t3)), (4, .ref (za Y t4)), (5, .int v5)] 28 []) : ∀ (t1 : Nat) (t2 : Nat) (t3 : Nat) (t4 : Nat) (v5 : Int32) (Y : zY) (σ : zS) (cl sl : Nat), wL_law_412 L xs kb28 t1 t2 t3 t4 v5 (zsp Y) σ → zext Y0 Y → zT Y 11 t1 → zT Y 12 t2 → zT Y 24 t3 → zT Y 25 t4 → cl + (1 + (nf * 50 + 0)) ≤ 601024 → sl + (6 + (nf * 7356 + 0)) ≤ 7293034 → WW E Y σ p l e room_1 s m #[Value.ref b] below meth c (zA Y0 s.heap.size) 9 cl sl (lw_Z below #[Value.ref b] s) [(0, .ref b), (1, .ref (za Y t1)), (2, .ref (za Y t2)), (3, .ref (za Y t3)), (4, .ref (za Y t4)), (5, .int v5)] 412 [] := by
  intro t1 t2 t3 t4 v5 Y σ cl sl hw hx h1 h2 h3 h4 hcl hsl
  unfold wL_law_412 at hw
  refine z_aload_n hG dL_law_412 rfl 1 rfl ?_
  refine z_aload_n hG dL_law_413 rfl 3 rfl ?_
  refine z_callCi hG (z_runSH (As := [.ref (za Y t1), .ref (za Y t3)]) (st := []) hG k_L_156 (ML_load l hlt h1 h3 hw) ⟨(Nat.le_of_ble_eq_true rfl), (Nat.le_of_ble_eq_true rfl)⟩ rfl (Nat.le_of_ble_eq_true rfl) dL_law_414 ⟨show cl + 0 + 1 ≤ 601024 from by omega, show sl + 0 + 6 ≤ 7293034 from by omega⟩ rfl) (fun r2 σ1 hw => ?_)
  refine zwiden (k := cl + 1) (n := sl + 6) (show cl + 0 + 1 ≤ cl + 1 from by omega) (show sl + 0 + 6 ≤ sl + 6 from by omega) ?_
  refine z_istore (lv' := [(6, .int r2), (0, .ref b), (1, .ref (za Y t1)), (2, .ref (za Y t2)), (3, .ref (za Y t3)), (4, .ref (za Y t4)), (5, .int v5)]) hG dL_law_417 (by decide) rfl ?_
  refine z_aload_n hG dL_law_419 rfl 3 rfl ?_
  refine z_calli hG (z_runV (As := []) (st := []) hG k_L_159 (MX12_load l h2 hw) ⟨(Nat.le_of_ble_eq_true rfl), (Nat.le_of_ble_eq_true rfl)⟩ h2 (T := TX12) (N := 23) rfl (by decide) rfl (Nat.le_of_ble_eq_true rfl) dL_law_420 ⟨show cl + 1 + 0 ≤ 601024 from by omega, show sl + 6 + 0 ≤ 7293034 from by omega⟩ rfl) (fun r4 σ3 hw => ?_)
  refine z_istore (lv' := [(7, .int r4), (6, .int r2), (0, .ref b), (1, .ref (za Y t1)), (2, .ref (za Y t2)), (3, .ref (za Y t3)), (4, .ref (za Y t4)), (5, .int v5)]) hG dL_law_423 (by decide) rfl ?_
  refine z_aload_n hG dL_law_425 rfl 4 rfl ?_
  refine z_calli hG (z_runV (As := []) (st := []) hG k_L_149 (MX12_thrown l h2 hw) ⟨(Nat.le_of_ble_eq_true rfl), (Nat.le_of_ble_eq_true rfl)⟩ h2 (T := TX12) (N := 23) rfl (by decide) rfl (Nat.le_of_ble_eq_true rfl) dL_law_426 ⟨show cl + 1 + 0 ≤ 601024 from by omega, show sl + 6 + 0 ≤ 7293034 from by omega⟩ rfl) (fun r6 σ5 hw => ?_)
  refine z_iload hG dL_law_429 1 rfl ?_
  refine z_icmp_eq (tgt := 436) hG dL_law_431 (by decide) (fun c10 => ?_) (fun c10 => ?_)
  · have hw := hw.1 c10
    refine z_iload hG dL_law_436 1 rfl ?_
    refine z_if_ne (tgt := 453) hG dL_law_438 (by decide) (fun c9 => ?_) (fun c9 => ?_)
    · have hw := hw.2 c9
      refine z_goto (tgt := 2768) hG dL_law_453 (by decide) ?_
      refine zpick [2, 3, 4, 5, 6, 7] (lv' := [(0, .ref b), (1, .ref (za Y t1)), (2, .ref (za Y t2)), (3, .ref (za Y t3)), (4, .ref (za Y t4)), (5, .int v5)]) rfl ?_
      refine zwiden (k := cl + 1) (n := sl + 6) (by omega) (by omega) ?_
      exact BL_law_2768 hlt hG hsc hkb28 t1 t2 t3 t4 v5 Y σ5 _ _ hw hx h1 h2 h3 h4 (by omega) (by omega)
    · have hw := hw.1 c9
      refine z_aload_n hG dL_law_441 rfl 5 rfl ?_
      refine z_iconst (v := 0) hG dL_law_442 (by decide) ?_
      obtain ⟨q7, hw⟩ := hw
      refine z_lald hG h3 q7 dL_law_443 ?_
      refine z_iload hG dL_law_444 0 rfl ?_
      refine z_i2l hG dL_law_446 ?_
      refine z_lcmp hG dL_law_447 ?_
      refine z_if_eq (tgt := 453) hG dL_law_448 (by decide) (fun c8 => ?_) (fun c8 => ?_)
      · have hw := hw.1 c8
        refine z_goto (tgt := 2768) hG dL_law_453 (by decide) ?_
        refine zpick [2, 3, 4, 5, 6, 7] (lv' := [(0, .ref b), (1, .ref (za Y t1)), (2, .ref (za Y t2)), (3, .ref (za Y t3)), (4, .ref (za Y t4)), (5, .int v5)]) rfl ?_
        refine zwiden (k := cl + 1) (n := sl + 6) (by omega) (by omega) ?_
        exact BL_law_2768 hlt hG hsc hkb28 t1 t2 t3 t4 v5 Y σ5 _ _ hw hx h1 h2 h3 h4 (by omega) (by omega)
      · have hw := hw.2 c8
        refine z_iconst (v := 0) hG dL_law_451 (by decide) ?_
        exact hw.elim
  · have hw := hw.2 c10
    refine z_iconst (v := 0) hG dL_law_434 (by decide) ?_
    exact hw.elim
set_option maxRecDepth 100000 in
set_option maxHeartbeats 4000000 in
theorem BL_law_456 {l : Launch} (hlt : l.stackTraces = false) {E : zE} {Y0 : zY} {p : Program} {e : Env} {s : State} {m : MethodId} {b L : Nat} {xs : Nat → Int32} {below : List Frame} {meth : Method} {c : Code} (hG : zG E p l s m #[Value.ref b] meth c cL_law 9 RL (some .boolean) (zA Y0 s.heap.size)) (hsc : zLaw b L xs s Y0) {nf : Nat} {kb28 : Nat → Nat → Nat → Nat → Int32 → zSp → zS → Prop} (hkb28 : ∀ (t1 : Nat) (t2 : Nat) (t3 : Nat) (t4 : Nat) (v5 : Int32) (Y : zY) (σ : zS) (cl sl : Nat), kb28 t1 t2 t3 t4 v5 (zsp Y) σ → zext Y0 Y → zT Y 11 t1 → zT Y 12 t2 → zT Y 24 t3 → zT Y 25 t4 → cl + (nf * 50 + 0) ≤ 601024 → sl + (nf * 7356 + 0) ≤ 7293034 → WW E Y σ p l e room_1 s m #[Value.ref b] below meth c (zA Y0 s.heap.size) 9 cl sl (lw_Z below #[Value.ref b] s) [(0, .ref b), (1, .ref (za Y t1)), (2, .ref (za Y t2)), (3, .ref (za Y t3)), (4, .ref (za Y t4)), (5, .int v5)] 28 []) : ∀ (t1 : Nat) (t2 : Nat) (t3 : Nat) (t4 : Nat) (v5 : Int32) (Y : zY) (σ : zS) (cl sl : Nat), wL_law_456 L xs kb28 t1 t2 t3 t4 v5 (zsp Y) σ → zext Y0 Y → zT Y 11 t1 → zT Y 12 t2 → zT Y 24 t3 → zT Y 25 t4 → cl + (0 + (nf * 50 + 0)) ≤ 601024 → sl + (0 + (nf * 7356 + 0)) ≤ 7293034 → WW E Y σ p l e room_1 s m #[Value.ref b] below meth c (zA Y0 s.heap.size) 9 cl sl (lw_Z below #[Value.ref b] s) [(0, .ref b), (1, .ref (za Y t1)), (2, .ref (za Y t2)), (3, .ref (za Y t3)), (4, .ref (za Y t4)), (5, .int v5)] 456 [] := by
  intro t1 t2 t3 t4 v5 Y σ cl sl hw hx h1 h2 h3 h4 hcl hsl
  unfold wL_law_456 at hw
  refine z_aload_n hG dL_law_456 rfl 1 rfl ?_
  refine z_calli hG (z_runV (As := []) (st := []) hG k_L_160 (MX11_errorOffset l h1 hw) ⟨(Nat.le_of_ble_eq_true rfl), (Nat.le_of_ble_eq_true rfl)⟩ h1 (T := TX11) (N := 9) rfl (by decide) rfl (Nat.le_of_ble_eq_true rfl) dL_law_457 ⟨show cl + 0 + 0 ≤ 601024 from by omega, show sl + 0 + 0 ≤ 7293034 from by omega⟩ rfl) (fun r2 σ1 hw => ?_)
  refine z_aload_n hG dL_law_460 rfl 2 rfl ?_
  refine z_calli hG (z_runV (As := []) (st := [.int r2]) hG k_L_163 (MX12_errorOffset l h2 hw) ⟨(Nat.le_of_ble_eq_true rfl), (Nat.le_of_ble_eq_true rfl)⟩ h2 (T := TX12) (N := 23) rfl (by decide) rfl (Nat.le_of_ble_eq_true rfl) dL_law_461 ⟨show cl + 0 + 0 ≤ 601024 from by omega, show sl + 0 + 0 ≤ 7293034 from by omega⟩ rfl) (fun r4 σ3 hw => ?_)
  refine z_icmp_eq (tgt := 2768) hG dL_law_464 (by decide) (fun c5 => ?_) (fun c5 => ?_)
  · have hw := hw.1 c5
    refine zpick [0, 1, 2, 3, 4, 5] (lv' := [(0, .ref b), (1, .ref (za Y t1)), (2, .ref (za Y t2)), (3, .ref (za Y t3)), (4, .ref (za Y t4)), (5, .int v5)]) rfl ?_
    exact BL_law_2768 hlt hG hsc hkb28 t1 t2 t3 t4 v5 Y σ3 _ _ hw hx h1 h2 h3 h4 (by omega) (by omega)
  · have hw := hw.2 c5
    refine z_iconst (v := 0) hG dL_law_467 (by decide) ?_
    exact hw.elim
set_option maxRecDepth 100000 in
set_option maxHeartbeats 4000000 in
theorem BL_law_469 {l : Launch} (hlt : l.stackTraces = false) {E : zE} {Y0 : zY} {p : Program} {e : Env} {s : State} {m : MethodId} {b L : Nat} {xs : Nat → Int32} {below : List Frame} {meth : Method} {c : Code} (hG : zG E p l s m #[Value.ref b] meth c cL_law 9 RL (some .boolean) (zA Y0 s.heap.size)) (hsc : zLaw b L xs s Y0) {nf : Nat} {kb28 : Nat → Nat → Nat → Nat → Int32 → zSp → zS → Prop} (hkb28 : ∀ (t1 : Nat) (t2 : Nat) (t3 : Nat) (t4 : Nat) (v5 : Int32) (Y : zY) (σ : zS) (cl sl : Nat), kb28 t1 t2 t3 t4 v5 (zsp Y) σ → zext Y0 Y → zT Y 11 t1 → zT Y 12 t2 → zT Y 24 t3 → zT Y 25 t4 → cl + (nf * 50 + 0) ≤ 601024 → sl + (nf * 7356 + 0) ≤ 7293034 → WW E Y σ p l e room_1 s m #[Value.ref b] below meth c (zA Y0 s.heap.size) 9 cl sl (lw_Z below #[Value.ref b] s) [(0, .ref b), (1, .ref (za Y t1)), (2, .ref (za Y t2)), (3, .ref (za Y t3)), (4, .ref (za Y t4)), (5, .int v5)] 28 []) : ∀ (t1 : Nat) (t2 : Nat) (t3 : Nat) (t4 : Nat) (v5 : Int32) (Y : zY) (σ : zS) (cl sl : Nat), wL_law_469 L xs kb28 t1 t2 t3 t4 v5 (zsp Y) σ → zext Y0 Y → zT Y 11 t1 → zT Y 12 t2 → zT Y 24 t3 → zT Y 25 t4 → cl + (0 + (nf * 50 + 0)) ≤ 601024 → sl + (0 + (nf * 7356 + 0)) ≤ 7293034 → WW E Y σ p l e room_1 s m #[Value.ref b] below meth c (zA Y0 s.heap.size) 9 cl sl (lw_Z below #[Value.ref b] s) [(0, .ref b), (1, .ref (za Y t1)), (2, .ref (za Y t2)), (3, .ref (za Y t3)), (4, .ref (za Y t4)), (5, .int v5)] 469 [] := by
  intro t1 t2 t3 t4 v5 Y σ cl sl hw hx h1 h2 h3 h4 hcl hsl
  unfold wL_law_469 at hw
  refine z_aload_n hG dL_law_469 rfl 1 rfl ?_
  refine z_calli hG (z_runV (As := []) (st := []) hG k_L_164 (MX11_positions l h1 hw) ⟨(Nat.le_of_ble_eq_true rfl), (Nat.le_of_ble_eq_true rfl)⟩ h1 (T := TX11) (N := 9) rfl (by decide) rfl (Nat.le_of_ble_eq_true rfl) dL_law_470 ⟨show cl + 0 + 0 ≤ 601024 from by omega, show sl + 0 + 0 ≤ 7293034 from by omega⟩ rfl) (fun r2 σ1 hw => ?_)
  refine z_aload_n hG dL_law_473 rfl 2 rfl ?_
  refine z_calli hG (z_runV (As := []) (st := [.int r2]) hG k_L_167 (MX12_positions l h2 hw) ⟨(Nat.le_of_ble_eq_true rfl), (Nat.le_of_ble_eq_true rfl)⟩ h2 (T := TX12) (N := 23) rfl (by decide) rfl (Nat.le_of_ble_eq_true rfl) dL_law_474 ⟨show cl + 0 + 0 ≤ 601024 from by omega, show sl + 0 + 0 ≤ 7293034 from by omega⟩ rfl) (fun r4 σ3 hw => ?_)
  refine z_icmp_eq (tgt := 2768) hG dL_law_477 (by decide) (fun c5 => ?_) (fun c5 => ?_)
  · have hw := hw.1 c5
    refine zpick [0, 1, 2, 3, 4, 5] (lv' := [(0, .ref b), (1, .ref (za Y t1)), (2, .ref (za Y t2)), (3, .ref (za Y t3)), (4, .ref (za Y t4)), (5, .int v5)]) rfl ?_
    exact BL_law_2768 hlt hG hsc hkb28 t1 t2 t3 t4 v5 Y σ3 _ _ hw hx h1 h2 h3 h4 (by omega) (by omega)
  · have hw := hw.2 c5
    refine z_iconst (v := 0) hG dL_law_480 (by decide) ?_
    exact hw.elim
set_option maxRecDepth 100000 in
set_option maxHeartbeats 4000000 in
theorem BL_law_482 {l : Launch} (hlt : l.stackTraces = false) {E : zE} {Y0 : zY} {p : Program} {e : Env} {s : State} {m : MethodId} {b L : Nat} {xs : Nat → Int32} {below : List Frame} {meth : Method} {c : Code} (hG : zG E p l s m #[Value.ref b] meth c cL_law 9 RL (some .boolean) (zA Y0 s.heap.size)) (hsc : zLaw b L xs s Y0) {nf : Nat} {kb28 : Nat → Nat → Nat → Nat → Int32 → zSp → zS → Prop} (hkb28 : ∀ (t1 : Nat) (t2 : Nat) (t3 : Nat) (t4 : Nat) (v5 : Int32) (Y : zY) (σ : zS) (cl sl : Nat), kb28 t1 t2 t3 t4 v5 (zsp Y) σ → zext Y0 Y → zT Y 11 t1 → zT Y 12 t2 → zT Y 24 t3 → zT Y 25 t4 → cl + (nf * 50 + 0) ≤ 601024 → sl + (nf * 7356 + 0) ≤ 7293034 → WW E Y σ p l e room_1 s m #[Value.ref b] below meth c (zA Y0 s.heap.size) 9 cl sl (lw_Z below #[Value.ref b] s) [(0, .ref b), (1, .ref (za Y t1)), (2, .ref (za Y t2)), (3, .ref (za Y t3)), (4, .ref (za Y t4)), (5, .int v5)] 28 []) : ∀ (t1 : Nat) (t2 : Nat) (t3 : Nat) (t4 : Nat) (v5 : Int32) (Y : zY) (σ : zS) (cl sl : Nat), wL_law_482 L xs kb28 t1 t2 t3 t4 v5 (zsp Y) σ → zext Y0 Y → zT Y 11 t1 → zT Y 12 t2 → zT Y 24 t3 → zT Y 25 t4 → cl + (0 + (nf * 50 + 0)) ≤ 601024 → sl + (0 + (nf * 7356 + 0)) ≤ 7293034 → WW E Y σ p l e room_1 s m #[Value.ref b] below meth c (zA Y0 s.heap.size) 9 cl sl (lw_Z below #[Value.ref b] s) [(0, .ref b), (1, .ref (za Y t1)), (2, .ref (za Y t2)), (3, .ref (za Y t3)), (4, .ref (za Y t4)), (5, .int v5)] 482 [] := by
  intro t1 t2 t3 t4 v5 Y σ cl sl hw hx h1 h2 h3 h4 hcl hsl
  unfold wL_law_482 at hw
  refine z_aload_n hG dL_law_482 rfl 1 rfl ?_
  refine z_calli hG (z_runV (As := []) (st := []) hG k_L_168 (MX11_time l h1 hw) ⟨(Nat.le_of_ble_eq_true rfl), (Nat.le_of_ble_eq_true rfl)⟩ h1 (T := TX11) (N := 9) rfl (by decide) rfl (Nat.le_of_ble_eq_true rfl) dL_law_483 ⟨show cl + 0 + 0 ≤ 601024 from by omega, show sl + 0 + 0 ≤ 7293034 from by omega⟩ rfl) (fun r2 σ1 hw => ?_)
  refine z_aload_n hG dL_law_486 rfl 2 rfl ?_
  refine z_calli hG (z_runV (As := []) (st := [.int r2]) hG k_L_171 (MX12_time l h2 hw) ⟨(Nat.le_of_ble_eq_true rfl), (Nat.le_of_ble_eq_true rfl)⟩ h2 (T := TX12) (N := 23) rfl (by decide) rfl (Nat.le_of_ble_eq_true rfl) dL_law_487 ⟨show cl + 0 + 0 ≤ 601024 from by omega, show sl + 0 + 0 ≤ 7293034 from by omega⟩ rfl) (fun r4 σ3 hw => ?_)
  refine z_icmp_eq (tgt := 2768) hG dL_law_490 (by decide) (fun c5 => ?_) (fun c5 => ?_)
  · have hw := hw.1 c5
    refine zpick [0, 1, 2, 3, 4, 5] (lv' := [(0, .ref b), (1, .ref (za Y t1)), (2, .ref (za Y t2)), (3, .ref (za Y t3)), (4, .ref (za Y t4)), (5, .int v5)]) rfl ?_
    exact BL_law_2768 hlt hG hsc hkb28 t1 t2 t3 t4 v5 Y σ3 _ _ hw hx h1 h2 h3 h4 (by omega) (by omega)
  · have hw := hw.2 c5
    refine z_iconst (v := 0) hG dL_law_493 (by decide) ?_
    exact hw.elim
set_option maxRecDepth 100000 in
set_option maxHeartbeats 4000000 in
theorem BL_law_495 {l : Launch} (hlt : l.stackTraces = false) {E : zE} {Y0 : zY} {p : Program} {e : Env} {s : State} {m : MethodId} {b L : Nat} {xs : Nat → Int32} {below : List Frame} {meth : Method} {c : Code} (hG : zG E p l s m #[Value.ref b] meth c cL_law 9 RL (some .boolean) (zA Y0 s.heap.size)) (hsc : zLaw b L xs s Y0) {nf : Nat} {kb28 : Nat → Nat → Nat → Nat → Int32 → zSp → zS → Prop} (hkb28 : ∀ (t1 : Nat) (t2 : Nat) (t3 : Nat) (t4 : Nat) (v5 : Int32) (Y : zY) (σ : zS) (cl sl : Nat), kb28 t1 t2 t3 t4 v5 (zsp Y) σ → zext Y0 Y → zT Y 11 t1 → zT Y 12 t2 → zT Y 24 t3 → zT Y 25 t4 → cl + (nf * 50 + 0) ≤ 601024 → sl + (nf * 7356 + 0) ≤ 7293034 → WW E Y σ p l e room_1 s m #[Value.ref b] below meth c (zA Y0 s.heap.size) 9 cl sl (lw_Z below #[Value.ref b] s) [(0, .ref b), (1, .ref (za Y t1)), (2, .ref (za Y t2)), (3, .ref (za Y t3)), (4, .ref (za Y t4)), (5, .int v5)] 28 []) : ∀ (t1 : Nat) (t2 : Nat) (t3 : Nat) (t4 : Nat) (v5 : Int32) (Y : zY) (σ : zS) (cl sl : Nat), wL_law_495 L xs kb28 t1 t2 t3 t4 v5 (zsp Y) σ → zext Y0 Y → zT Y 11 t1 → zT Y 12 t2 → zT Y 24 t3 → zT Y 25 t4 → cl + (1 + (nf * 50 + 0)) ≤ 601024 → sl + (6 + (nf * 7356 + 0)) ≤ 7293034 → WW E Y σ p l e room_1 s m #[Value.ref b] below meth c (zA Y0 s.heap.size) 9 cl sl (lw_Z below #[Value.ref b] s) [(0, .ref b), (1, .ref (za Y t1)), (2, .ref (za Y t2)), (3, .ref (za Y t3)), (4, .ref (za Y t4)), (5, .int v5)] 495 [] := by
  intro t1 t2 t3 t4 v5 Y σ cl sl hw hx h1 h2 h3 h4 hcl hsl
  unfold wL_law_495 at hw
  refine z_aload_n hG dL_law_495 rfl 1 rfl ?_
  refine z_aload_n hG dL_law_496 rfl 0 rfl ?_
  refine z_iload hG dL_law_497 5 rfl ?_
  refine z_iconst (v := 1) hG dL_law_499 (by decide) ?_
  refine z_iadd hG dL_law_500 ?_
  refine z_topi (fun x1 ex1 => ?_)
  have hw := hw x1 ex1
  obtain ⟨q2, hw⟩ := hw
  refine z_lawld hG hsc q2 dL_law_501 ?_
  refine z_aload_n hG dL_law_502 rfl 3 rfl ?_
  obtain ⟨x3, ex3⟩ : ∃ y : Int32, y = xs x1.toNatClampNeg := ⟨_, rfl⟩
  refine zst (st' := [.ref (za Y t3), .int x3, .ref (za Y t1)]) (by rw [ex3] <;> rfl) ?_
  have hw := hw x3 ex3
  refine z_callCi hG (z_runSH (As := [.ref (za Y t1), .int x3, .ref (za Y t3)]) (st := []) hG k_L_172 (ML_phase l hlt h1 h3 hw) ⟨(Nat.le_of_ble_eq_true rfl), (Nat.le_of_ble_eq_true rfl)⟩ rfl (Nat.le_of_ble_eq_true rfl) dL_law_503 ⟨show cl + 0 + 1 ≤ 601024 from by omega, show sl + 0 + 6 ≤ 7293034 from by omega⟩ rfl) (fun r5 σ4 hw => ?_)
  refine zwiden (k := cl + 1) (n := sl + 6) (show cl + 0 + 1 ≤ cl + 1 from by omega) (show sl + 0 + 6 ≤ sl + 6 from by omega) ?_
  refine z_istore (lv' := [(6, .int r5), (0, .ref b), (1, .ref (za Y t1)), (2, .ref (za Y t2)), (3, .ref (za Y t3)), (4, .ref (za Y t4)), (5, .int v5)]) hG dL_law_506 (by decide) rfl ?_
  refine z_aload_n hG dL_law_508 rfl 3 rfl ?_
  refine z_aload_n hG dL_law_509 rfl 1 rfl ?_
  refine z_iload hG dL_law_510 6 rfl ?_
  refine z_iconst (v := 1) hG dL_law_512 (by decide) ?_
  refine z_iadd hG dL_law_513 ?_
  refine z_topi (fun x6 ex6 => ?_)
  have hw := hw x6 ex6
  obtain ⟨q7, hw⟩ := hw
  refine z_lawld hG hsc q7 dL_law_514 ?_
  refine z_topi (fun x8 ex8 => ?_)
  have hw := hw x8 ex8
  refine z_calli hG (z_runV (As := [.int x8]) (st := []) hG k_L_175 (MX12_phase l h2 hw) ⟨(Nat.le_of_ble_eq_true rfl), (Nat.le_of_ble_eq_true rfl)⟩ h2 (T := TX12) (N := 23) rfl (by decide) rfl (Nat.le_of_ble_eq_true rfl) dL_law_515 ⟨show cl + 1 + 0 ≤ 601024 from by omega, show sl + 6 + 0 ≤ 7293034 from by omega⟩ rfl) (fun r10 σ9 hw => ?_)
  refine z_istore (lv' := [(7, .int r10), (6, .int r5), (0, .ref b), (1, .ref (za Y t1)), (2, .ref (za Y t2)), (3, .ref (za Y t3)), (4, .ref (za Y t4)), (5, .int v5)]) hG dL_law_518 (by decide) rfl ?_
  refine z_aload_n hG dL_law_520 rfl 4 rfl ?_
  refine z_calli hG (z_runV (As := []) (st := []) hG k_L_149 (MX12_thrown l h2 hw) ⟨(Nat.le_of_ble_eq_true rfl), (Nat.le_of_ble_eq_true rfl)⟩ h2 (T := TX12) (N := 23) rfl (by decide) rfl (Nat.le_of_ble_eq_true rfl) dL_law_521 ⟨show cl + 1 + 0 ≤ 601024 from by omega, show sl + 6 + 0 ≤ 7293034 from by omega⟩ rfl) (fun r12 σ11 hw => ?_)
  refine z_iload hG dL_law_524 1 rfl ?_
  refine z_icmp_eq (tgt := 531) hG dL_law_526 (by decide) (fun c16 => ?_) (fun c16 => ?_)
  · have hw := hw.1 c16
    refine z_iload hG dL_law_531 1 rfl ?_
    refine z_if_ne (tgt := 548) hG dL_law_533 (by decide) (fun c15 => ?_) (fun c15 => ?_)
    · have hw := hw.2 c15
      refine z_goto (tgt := 2768) hG dL_law_548 (by decide) ?_
      refine zpick [2, 3, 4, 5, 6, 7] (lv' := [(0, .ref b), (1, .ref (za Y t1)), (2, .ref (za Y t2)), (3, .ref (za Y t3)), (4, .ref (za Y t4)), (5, .int v5)]) rfl ?_
      refine zwiden (k := cl + 1) (n := sl + 6) (by omega) (by omega) ?_
      exact BL_law_2768 hlt hG hsc hkb28 t1 t2 t3 t4 v5 Y σ11 _ _ hw hx h1 h2 h3 h4 (by omega) (by omega)
    · have hw := hw.1 c15
      refine z_aload_n hG dL_law_536 rfl 5 rfl ?_
      refine z_iconst (v := 0) hG dL_law_537 (by decide) ?_
      obtain ⟨q13, hw⟩ := hw
      refine z_lald hG h3 q13 dL_law_538 ?_
      refine z_iload hG dL_law_539 0 rfl ?_
      refine z_i2l hG dL_law_541 ?_
      refine z_lcmp hG dL_law_542 ?_
      refine z_if_eq (tgt := 548) hG dL_law_543 (by decide) (fun c14 => ?_) (fun c14 => ?_)
      · have hw := hw.1 c14
        refine z_goto (tgt := 2768) hG dL_law_548 (by decide) ?_
        refine zpick [2, 3, 4, 5, 6, 7] (lv' := [(0, .ref b), (1, .ref (za Y t1)), (2, .ref (za Y t2)), (3, .ref (za Y t3)), (4, .ref (za Y t4)), (5, .int v5)]) rfl ?_
        refine zwiden (k := cl + 1) (n := sl + 6) (by omega) (by omega) ?_
        exact BL_law_2768 hlt hG hsc hkb28 t1 t2 t3 t4 v5 Y σ11 _ _ hw hx h1 h2 h3 h4 (by omega) (by omega)
      · have hw := hw.2 c14
        refine z_iconst (v := 0) hG dL_law_546 (by decide) ?_
        exact hw.elim
  · have hw := hw.2 c16
    refine z_iconst (v := 0) hG dL_law_529 (by decide) ?_
    exact hw.elim
set_option maxRecDepth 100000 in
set_option maxHeartbeats 4000000 in
theorem BL_law_551 {l : Launch} (hlt : l.stackTraces = false) {E : zE} {Y0 : zY} {p : Program} {e : Env} {s : State} {m : MethodId} {b L : Nat} {xs : Nat → Int32} {below : List Frame} {meth : Method} {c : Code} (hG : zG E p l s m #[Value.ref b] meth c cL_law 9 RL (some .boolean) (zA Y0 s.heap.size)) (hsc : zLaw b L xs s Y0) {nf : Nat} {kb28 : Nat → Nat → Nat → Nat → Int32 → zSp → zS → Prop} (hkb28 : ∀ (t1 : Nat) (t2 : Nat) (t3 : Nat) (t4 : Nat) (v5 : Int32) (Y : zY) (σ : zS) (cl sl : Nat), kb28 t1 t2 t3 t4 v5 (zsp Y) σ → zext Y0 Y → zT Y 11 t1 → zT Y 12 t2 → zT Y 24 t3 → zT Y 25 t4 → cl + (nf * 50 + 0) ≤ 601024 → sl + (nf * 7356 + 0) ≤ 7293034 → WW E Y σ p l e room_1 s m #[Value.ref b] below meth c (zA Y0 s.heap.size) 9 cl sl (lw_Z below #[Value.ref b] s) [(0, .ref b), (1, .ref (za Y t1)), (2, .ref (za Y t2)), (3, .ref (za Y t3)), (4, .ref (za Y t4)), (5, .int v5)] 28 []) : ∀ (t1 : Nat) (t2 : Nat) (t3 : Nat) (t4 : Nat) (v5 : Int32) (Y : zY) (σ : zS) (cl sl : Nat), wL_law_551 L xs kb28 t1 t2 t3 t4 v5 (zsp Y) σ → zext Y0 Y → zT Y 11 t1 → zT Y 12 t2 → zT Y 24 t3 → zT Y 25 t4 → cl + (1 + (nf * 50 + 0)) ≤ 601024 → sl + (6 + (nf * 7356 + 0)) ≤ 7293034 → WW E Y σ p l e room_1 s m #[Value.ref b] below meth c (zA Y0 s.heap.size) 9 cl sl (lw_Z below #[Value.ref b] s) [(0, .ref b), (1, .ref (za Y t1)), (2, .ref (za Y t2)), (3, .ref (za Y t3)), (4, .ref (za Y t4)), (5, .int v5)] 551 [] := by
  intro t1 t2 t3 t4 v5 Y σ cl sl hw hx h1 h2 h3 h4 hcl hsl
  unfold wL_law_551 at hw
  refine z_aload_n hG dL_law_551 rfl 1 rfl ?_
  refine z_aload_n hG dL_law_552 rfl 0 rfl ?_
  refine z_iload hG dL_law_553 5 rfl ?_
  refine z_iconst (v := 1) hG dL_law_555 (by decide) ?_
  refine z_iadd hG dL_law_556 ?_
  refine z_topi (fun x1 ex1 => ?_)
  have hw := hw x1 ex1
  obtain ⟨q2, hw⟩ := hw
  refine z_lawld hG hsc q2 dL_law_557 ?_
  refine z_aload_n hG dL_law_558 rfl 3 rfl ?_
  obtain ⟨x3, ex3⟩ : ∃ y : Int32, y = xs x1.toNatClampNeg := ⟨_, rfl⟩
  refine zst (st' := [.ref (za Y t3), .int x3, .ref (za Y t1)]) (by rw [ex3] <;> rfl) ?_
  have hw := hw x3 ex3
  refine z_callCi hG (z_runSH (As := [.ref (za Y t1), .int x3, .ref (za Y t3)]) (st := []) hG k_L_176 (ML_rate l hlt h1 h3 hw) ⟨(Nat.le_of_ble_eq_true rfl), (Nat.le_of_ble_eq_true rfl)⟩ rfl (Nat.le_of_ble_eq_true rfl) dL_law_559 ⟨show cl + 0 + 1 ≤ 601024 from by omega, show sl + 0 + 6 ≤ 7293034 from by omega⟩ rfl) (fun r5 σ4 hw => ?_)
  refine zwiden (k := cl + 1) (n := sl + 6) (show cl + 0 + 1 ≤ cl + 1 from by omega) (show sl + 0 + 6 ≤ sl + 6 from by omega) ?_
  refine z_istore (lv' := [(6, .int r5), (0, .ref b), (1, .ref (za Y t1)), (2, .ref (za Y t2)), (3, .ref (za Y t3)), (4, .ref (za Y t4)), (5, .int v5)]) hG dL_law_562 (by decide) rfl ?_
  refine z_aload_n hG dL_law_564 rfl 3 rfl ?_
  refine z_aload_n hG dL_law_565 rfl 1 rfl ?_
  refine z_iload hG dL_law_566 6 rfl ?_
  refine z_iconst (v := 1) hG dL_law_568 (by decide) ?_
  refine z_iadd hG dL_law_569 ?_
  refine z_topi (fun x6 ex6 => ?_)
  have hw := hw x6 ex6
  obtain ⟨q7, hw⟩ := hw
  refine z_lawld hG hsc q7 dL_law_570 ?_
  refine z_topi (fun x8 ex8 => ?_)
  have hw := hw x8 ex8
  refine z_calli hG (z_runV (As := [.int x8]) (st := []) hG k_L_178 (MX12_rate l h2 hw) ⟨(Nat.le_of_ble_eq_true rfl), (Nat.le_of_ble_eq_true rfl)⟩ h2 (T := TX12) (N := 23) rfl (by decide) rfl (Nat.le_of_ble_eq_true rfl) dL_law_571 ⟨show cl + 1 + 0 ≤ 601024 from by omega, show sl + 6 + 0 ≤ 7293034 from by omega⟩ rfl) (fun r10 σ9 hw => ?_)
  refine z_istore (lv' := [(7, .int r10), (6, .int r5), (0, .ref b), (1, .ref (za Y t1)), (2, .ref (za Y t2)), (3, .ref (za Y t3)), (4, .ref (za Y t4)), (5, .int v5)]) hG dL_law_574 (by decide) rfl ?_
  refine z_aload_n hG dL_law_576 rfl 4 rfl ?_
  refine z_calli hG (z_runV (As := []) (st := []) hG k_L_149 (MX12_thrown l h2 hw) ⟨(Nat.le_of_ble_eq_true rfl), (Nat.le_of_ble_eq_true rfl)⟩ h2 (T := TX12) (N := 23) rfl (by decide) rfl (Nat.le_of_ble_eq_true rfl) dL_law_577 ⟨show cl + 1 + 0 ≤ 601024 from by omega, show sl + 6 + 0 ≤ 7293034 from by omega⟩ rfl) (fun r12 σ11 hw => ?_)
  refine z_iload hG dL_law_580 1 rfl ?_
  refine z_icmp_eq (tgt := 587) hG dL_law_582 (by decide) (fun c16 => ?_) (fun c16 => ?_)
  · have hw := hw.1 c16
    refine z_iload hG dL_law_587 1 rfl ?_
    refine z_if_ne (tgt := 604) hG dL_law_589 (by decide) (fun c15 => ?_) (fun c15 => ?_)
    · have hw := hw.2 c15
      refine z_goto (tgt := 2768) hG dL_law_604 (by decide) ?_
      refine zpick [2, 3, 4, 5, 6, 7] (lv' := [(0, .ref b), (1, .ref (za Y t1)), (2, .ref (za Y t2)), (3, .ref (za Y t3)), (4, .ref (za Y t4)), (5, .int v5)]) rfl ?_
      refine zwiden (k := cl + 1) (n := sl + 6) (by omega) (by omega) ?_
      exact BL_law_2768 hlt hG hsc hkb28 t1 t2 t3 t4 v5 Y σ11 _ _ hw hx h1 h2 h3 h4 (by omega) (by omega)
    · have hw := hw.1 c15
      refine z_aload_n hG dL_law_592 rfl 5 rfl ?_
      refine z_iconst (v := 0) hG dL_law_593 (by decide) ?_
      obtain ⟨q13, hw⟩ := hw
      refine z_lald hG h3 q13 dL_law_594 ?_
      refine z_iload hG dL_law_595 0 rfl ?_
      refine z_i2l hG dL_law_597 ?_
      refine z_lcmp hG dL_law_598 ?_
      refine z_if_eq (tgt := 604) hG dL_law_599 (by decide) (fun c14 => ?_) (fun c14 => ?_)
      · have hw := hw.1 c14
        refine z_goto (tgt := 2768) hG dL_law_604 (by decide) ?_
        refine zpick [2, 3, 4, 5, 6, 7] (lv' := [(0, .ref b), (1, .ref (za Y t1)), (2, .ref (za Y t2)), (3, .ref (za Y t3)), (4, .ref (za Y t4)), (5, .int v5)]) rfl ?_
        refine zwiden (k := cl + 1) (n := sl + 6) (by omega) (by omega) ?_
        exact BL_law_2768 hlt hG hsc hkb28 t1 t2 t3 t4 v5 Y σ11 _ _ hw hx h1 h2 h3 h4 (by omega) (by omega)
      · have hw := hw.2 c14
        refine z_iconst (v := 0) hG dL_law_602 (by decide) ?_
        exact hw.elim
  · have hw := hw.2 c16
    refine z_iconst (v := 0) hG dL_law_585 (by decide) ?_
    exact hw.elim
set_option maxRecDepth 100000 in
set_option maxHeartbeats 4000000 in
theorem BL_law_607 {l : Launch} (hlt : l.stackTraces = false) {E : zE} {Y0 : zY} {p : Program} {e : Env} {s : State} {m : MethodId} {b L : Nat} {xs : Nat → Int32} {below : List Frame} {meth : Method} {c : Code} (hG : zG E p l s m #[Value.ref b] meth c cL_law 9 RL (some .boolean) (zA Y0 s.heap.size)) (hsc : zLaw b L xs s Y0) {nf : Nat} {kb28 : Nat → Nat → Nat → Nat → Int32 → zSp → zS → Prop} (hkb28 : ∀ (t1 : Nat) (t2 : Nat) (t3 : Nat) (t4 : Nat) (v5 : Int32) (Y : zY) (σ : zS) (cl sl : Nat), kb28 t1 t2 t3 t4 v5 (zsp Y) σ → zext Y0 Y → zT Y 11 t1 → zT Y 12 t2 → zT Y 24 t3 → zT Y 25 t4 → cl + (nf * 50 + 0) ≤ 601024 → sl + (nf * 7356 + 0) ≤ 7293034 → WW E Y σ p l e room_1 s m #[Value.ref b] below meth c (zA Y0 s.heap.size) 9 cl sl (lw_Z below #[Value.ref b] s) [(0, .ref b), (1, .ref (za Y t1)), (2, .ref (za Y t2)), (3, .ref (za Y t3)), (4, .ref (za Y t4)), (5, .int v5)] 28 []) : ∀ (t1 : Nat) (t2 : Nat) (t3 : Nat) (t4 : Nat) (v5 : Int32) (Y : zY) (σ : zS) (cl sl : Nat), wL_law_607 L xs kb28 t1 t2 t3 t4 v5 (zsp Y) σ → zext Y0 Y → zT Y 11 t1 → zT Y 12 t2 → zT Y 24 t3 → zT Y 25 t4 → cl + (1 + (nf * 50 + 0)) ≤ 601024 → sl + (6 + (nf * 7356 + 0)) ≤ 7293034 → WW E Y σ p l e room_1 s m #[Value.ref b] below meth c (zA Y0 s.heap.size) 9 cl sl (lw_Z below #[Value.ref b] s) [(0, .ref b), (1, .ref (za Y t1)), (2, .ref (za Y t2)), (3, .ref (za Y t3)), (4, .ref (za Y t4)), (5, .int v5)] 607 [] := by
  intro t1 t2 t3 t4 v5 Y σ cl sl hw hx h1 h2 h3 h4 hcl hsl
  unfold wL_law_607 at hw
  refine z_aload_n hG dL_law_607 rfl 1 rfl ?_
  refine z_aload_n hG dL_law_608 rfl 0 rfl ?_
  refine z_iload hG dL_law_609 5 rfl ?_
  refine z_iconst (v := 1) hG dL_law_611 (by decide) ?_
  refine z_iadd hG dL_law_612 ?_
  refine z_topi (fun x1 ex1 => ?_)
  have hw := hw x1 ex1
  obtain ⟨q2, hw⟩ := hw
  refine z_lawld hG hsc q2 dL_law_613 ?_
  refine z_aload_n hG dL_law_614 rfl 3 rfl ?_
  obtain ⟨x3, ex3⟩ : ∃ y : Int32, y = xs x1.toNatClampNeg := ⟨_, rfl⟩
  refine zst (st' := [.ref (za Y t3), .int x3, .ref (za Y t1)]) (by rw [ex3] <;> rfl) ?_
  have hw := hw x3 ex3
  refine z_callCi hG (z_runSH (As := [.ref (za Y t1), .int x3, .ref (za Y t3)]) (st := []) hG k_L_179 (ML_facing l hlt h1 h3 hw) ⟨(Nat.le_of_ble_eq_true rfl), (Nat.le_of_ble_eq_true rfl)⟩ rfl (Nat.le_of_ble_eq_true rfl) dL_law_615 ⟨show cl + 0 + 1 ≤ 601024 from by omega, show sl + 0 + 6 ≤ 7293034 from by omega⟩ rfl) (fun r5 σ4 hw => ?_)
  refine zwiden (k := cl + 1) (n := sl + 6) (show cl + 0 + 1 ≤ cl + 1 from by omega) (show sl + 0 + 6 ≤ sl + 6 from by omega) ?_
  refine z_istore (lv' := [(6, .int r5), (0, .ref b), (1, .ref (za Y t1)), (2, .ref (za Y t2)), (3, .ref (za Y t3)), (4, .ref (za Y t4)), (5, .int v5)]) hG dL_law_618 (by decide) rfl ?_
  refine z_aload_n hG dL_law_620 rfl 3 rfl ?_
  refine z_aload_n hG dL_law_621 rfl 1 rfl ?_
  refine z_iload hG dL_law_622 6 rfl ?_
  refine z_iconst (v := 1) hG dL_law_624 (by decide) ?_
  refine z_iadd hG dL_law_625 ?_
  refine z_topi (fun x6 ex6 => ?_)
  have hw := hw x6 ex6
  obtain ⟨q7, hw⟩ := hw
  refine z_lawld hG hsc q7 dL_law_626 ?_
  refine z_topi (fun x8 ex8 => ?_)
  have hw := hw x8 ex8
  refine z_calli hG (z_runV (As := [.int x8]) (st := []) hG k_L_181 (MX12_facing l h2 hw) ⟨(Nat.le_of_ble_eq_true rfl), (Nat.le_of_ble_eq_true rfl)⟩ h2 (T := TX12) (N := 23) rfl (by decide) rfl (Nat.le_of_ble_eq_true rfl) dL_law_627 ⟨show cl + 1 + 0 ≤ 601024 from by omega, show sl + 6 + 0 ≤ 7293034 from by omega⟩ rfl) (fun r10 σ9 hw => ?_)
  refine z_istore (lv' := [(7, .int r10), (6, .int r5), (0, .ref b), (1, .ref (za Y t1)), (2, .ref (za Y t2)), (3, .ref (za Y t3)), (4, .ref (za Y t4)), (5, .int v5)]) hG dL_law_630 (by decide) rfl ?_
  refine z_aload_n hG dL_law_632 rfl 4 rfl ?_
  refine z_calli hG (z_runV (As := []) (st := []) hG k_L_149 (MX12_thrown l h2 hw) ⟨(Nat.le_of_ble_eq_true rfl), (Nat.le_of_ble_eq_true rfl)⟩ h2 (T := TX12) (N := 23) rfl (by decide) rfl (Nat.le_of_ble_eq_true rfl) dL_law_633 ⟨show cl + 1 + 0 ≤ 601024 from by omega, show sl + 6 + 0 ≤ 7293034 from by omega⟩ rfl) (fun r12 σ11 hw => ?_)
  refine z_iload hG dL_law_636 1 rfl ?_
  refine z_icmp_eq (tgt := 643) hG dL_law_638 (by decide) (fun c16 => ?_) (fun c16 => ?_)
  · have hw := hw.1 c16
    refine z_iload hG dL_law_643 1 rfl ?_
    refine z_if_ne (tgt := 660) hG dL_law_645 (by decide) (fun c15 => ?_) (fun c15 => ?_)
    · have hw := hw.2 c15
      refine z_goto (tgt := 2768) hG dL_law_660 (by decide) ?_
      refine zpick [2, 3, 4, 5, 6, 7] (lv' := [(0, .ref b), (1, .ref (za Y t1)), (2, .ref (za Y t2)), (3, .ref (za Y t3)), (4, .ref (za Y t4)), (5, .int v5)]) rfl ?_
      refine zwiden (k := cl + 1) (n := sl + 6) (by omega) (by omega) ?_
      exact BL_law_2768 hlt hG hsc hkb28 t1 t2 t3 t4 v5 Y σ11 _ _ hw hx h1 h2 h3 h4 (by omega) (by omega)
    · have hw := hw.1 c15
      refine z_aload_n hG dL_law_648 rfl 5 rfl ?_
      refine z_iconst (v := 0) hG dL_law_649 (by decide) ?_
      obtain ⟨q13, hw⟩ := hw
      refine z_lald hG h3 q13 dL_law_650 ?_
      refine z_iload hG dL_law_651 0 rfl ?_
      refine z_i2l hG dL_law_653 ?_
      refine z_lcmp hG dL_law_654 ?_
      refine z_if_eq (tgt := 660) hG dL_law_655 (by decide) (fun c14 => ?_) (fun c14 => ?_)
      · have hw := hw.1 c14
        refine z_goto (tgt := 2768) hG dL_law_660 (by decide) ?_
        refine zpick [2, 3, 4, 5, 6, 7] (lv' := [(0, .ref b), (1, .ref (za Y t1)), (2, .ref (za Y t2)), (3, .ref (za Y t3)), (4, .ref (za Y t4)), (5, .int v5)]) rfl ?_
        refine zwiden (k := cl + 1) (n := sl + 6) (by omega) (by omega) ?_
        exact BL_law_2768 hlt hG hsc hkb28 t1 t2 t3 t4 v5 Y σ11 _ _ hw hx h1 h2 h3 h4 (by omega) (by omega)
      · have hw := hw.2 c14
        refine z_iconst (v := 0) hG dL_law_658 (by decide) ?_
        exact hw.elim
  · have hw := hw.2 c16
    refine z_iconst (v := 0) hG dL_law_641 (by decide) ?_
    exact hw.elim
set_option maxRecDepth 100000 in
set_option maxHeartbeats 4000000 in
theorem BL_law_711 {l : Launch} (hlt : l.stackTraces = false) {E : zE} {Y0 : zY} {p : Program} {e : Env} {s : State} {m : MethodId} {b L : Nat} {xs : Nat → Int32} {below : List Frame} {meth : Method} {c : Code} (hG : zG E p l s m #[Value.ref b] meth c cL_law 9 RL (some .boolean) (zA Y0 s.heap.size)) (hsc : zLaw b L xs s Y0) {nf : Nat} {kb28 : Nat → Nat → Nat → Nat → Int32 → zSp → zS → Prop} (hkb28 : ∀ (t1 : Nat) (t2 : Nat) (t3 : Nat) (t4 : Nat) (v5 : Int32) (Y : zY) (σ : zS) (cl sl : Nat), kb28 t1 t2 t3 t4 v5 (zsp Y) σ → zext Y0 Y → zT Y 11 t1 → zT Y 12 t2 → zT Y 24 t3 → zT Y 25 t4 → cl + (nf * 50 + 0) ≤ 601024 → sl + (nf * 7356 + 0) ≤ 7293034 → WW E Y σ p l e room_1 s m #[Value.ref b] below meth c (zA Y0 s.heap.size) 9 cl sl (lw_Z below #[Value.ref b] s) [(0, .ref b), (1, .ref (za Y t1)), (2, .ref (za Y t2)), (3, .ref (za Y t3)), (4, .ref (za Y t4)), (5, .int v5)] 28 []) : ∀ (t1 : Nat) (t2 : Nat) (t3 : Nat) (t4 : Nat) (v5 : Int32) (v6 : Int32) (tw0 : Nat) (vw1 : Int32) (vw2 : Int32) (Y : zY) (σ : zS) (cl sl : Nat), wL_law_711 L xs kb28 t1 t2 t3 t4 v5 v6 tw0 vw1 vw2 (zsp Y) σ → zext Y0 Y → zT Y 11 t1 → zT Y 12 t2 → zT Y 24 t3 → zT Y 25 t4 → zT Y 12 tw0 → cl + (0 + (nf * 50 + 0)) ≤ 601024 → sl + (0 + (nf * 7356 + 0)) ≤ 7293034 → WW E Y σ p l e room_1 s m #[Value.ref b] below meth c (zA Y0 s.heap.size) 9 cl sl (lw_Z below #[Value.ref b] s) [(0, .ref b), (1, .ref (za Y t1)), (2, .ref (za Y t2)), (3, .ref (za Y t3)), (4, .ref (za Y t4)), (5, .int v5), (6, .int v6)] 711 [.int vw2, .int vw1, .ref (za Y tw0)] := by
  intro t1 t2 t3 t4 v5 v6 tw0 vw1 vw2 Y σ cl sl hw hx h1 h2 h3 h4 hw0 hcl hsl
  unfold wL_law_711 at hw
  refine z_calli hG (z_runV (As := [.int vw1, .int vw2]) (st := []) hG k_L_185 (MX12_character l hw0 hw) ⟨(Nat.le_of_ble_eq_true rfl), (Nat.le_of_ble_eq_true rfl)⟩ hw0 (T := TX12) (N := 23) rfl (by decide) rfl (Nat.le_of_ble_eq_true rfl) dL_law_711 ⟨show cl + 0 + 0 ≤ 601024 from by omega, show sl + 0 + 0 ≤ 7293034 from by omega⟩ rfl) (fun r2 σ1 hw => ?_)
  refine z_istore (lv' := [(7, .int r2), (0, .ref b), (1, .ref (za Y t1)), (2, .ref (za Y t2)), (3, .ref (za Y t3)), (4, .ref (za Y t4)), (5, .int v5), (6, .int v6)]) hG dL_law_714 (by decide) rfl ?_
  refine z_aload_n hG dL_law_716 rfl 3 rfl ?_
  refine z_calli hG (z_runV (As := []) (st := []) hG k_L_149 (MX12_thrown l h2 hw) ⟨(Nat.le_of_ble_eq_true rfl), (Nat.le_of_ble_eq_true rfl)⟩ h2 (T := TX12) (N := 23) rfl (by decide) rfl (Nat.le_of_ble_eq_true rfl) dL_law_717 ⟨show cl + 0 + 0 ≤ 601024 from by omega, show sl + 0 + 0 ≤ 7293034 from by omega⟩ rfl) (fun r4 σ3 hw => ?_)
  refine z_iload hG dL_law_720 7 rfl ?_
  refine z_icmp_eq (tgt := 727) hG dL_law_722 (by decide) (fun c8 => ?_) (fun c8 => ?_)
  · have hw := hw.1 c8
    refine z_iload hG dL_law_727 7 rfl ?_
    refine z_if_ne (tgt := 744) hG dL_law_729 (by decide) (fun c7 => ?_) (fun c7 => ?_)
    · have hw := hw.2 c7
      refine z_goto (tgt := 2768) hG dL_law_744 (by decide) ?_
      refine zpick [1, 2, 3, 4, 5, 6] (lv' := [(0, .ref b), (1, .ref (za Y t1)), (2, .ref (za Y t2)), (3, .ref (za Y t3)), (4, .ref (za Y t4)), (5, .int v5)]) rfl ?_
      exact BL_law_2768 hlt hG hsc hkb28 t1 t2 t3 t4 v5 Y σ3 _ _ hw hx h1 h2 h3 h4 (by omega) (by omega)
    · have hw := hw.1 c7
      refine z_aload_n hG dL_law_732 rfl 4 rfl ?_
      refine z_iconst (v := 0) hG dL_law_733 (by decide) ?_
      obtain ⟨q5, hw⟩ := hw
      refine z_lald hG h3 q5 dL_law_734 ?_
      refine z_iload hG dL_law_735 0 rfl ?_
      refine z_i2l hG dL_law_737 ?_
      refine z_lcmp hG dL_law_738 ?_
      refine z_if_eq (tgt := 744) hG dL_law_739 (by decide) (fun c6 => ?_) (fun c6 => ?_)
      · have hw := hw.1 c6
        refine z_goto (tgt := 2768) hG dL_law_744 (by decide) ?_
        refine zpick [1, 2, 3, 4, 5, 6] (lv' := [(0, .ref b), (1, .ref (za Y t1)), (2, .ref (za Y t2)), (3, .ref (za Y t3)), (4, .ref (za Y t4)), (5, .int v5)]) rfl ?_
        exact BL_law_2768 hlt hG hsc hkb28 t1 t2 t3 t4 v5 Y σ3 _ _ hw hx h1 h2 h3 h4 (by omega) (by omega)
      · have hw := hw.2 c6
        refine z_iconst (v := 0) hG dL_law_742 (by decide) ?_
        exact hw.elim
  · have hw := hw.2 c8
    refine z_iconst (v := 0) hG dL_law_725 (by decide) ?_
    exact hw.elim
set_option maxRecDepth 100000 in
set_option maxHeartbeats 4000000 in
theorem BL_law_684 {l : Launch} (hlt : l.stackTraces = false) {E : zE} {Y0 : zY} {p : Program} {e : Env} {s : State} {m : MethodId} {b L : Nat} {xs : Nat → Int32} {below : List Frame} {meth : Method} {c : Code} (hG : zG E p l s m #[Value.ref b] meth c cL_law 9 RL (some .boolean) (zA Y0 s.heap.size)) (hsc : zLaw b L xs s Y0) {nf : Nat} {kb28 : Nat → Nat → Nat → Nat → Int32 → zSp → zS → Prop} (hkb28 : ∀ (t1 : Nat) (t2 : Nat) (t3 : Nat) (t4 : Nat) (v5 : Int32) (Y : zY) (σ : zS) (cl sl : Nat), kb28 t1 t2 t3 t4 v5 (zsp Y) σ → zext Y0 Y → zT Y 11 t1 → zT Y 12 t2 → zT Y 24 t3 → zT Y 25 t4 → cl + (nf * 50 + 0) ≤ 601024 → sl + (nf * 7356 + 0) ≤ 7293034 → WW E Y σ p l e room_1 s m #[Value.ref b] below meth c (zA Y0 s.heap.size) 9 cl sl (lw_Z below #[Value.ref b] s) [(0, .ref b), (1, .ref (za Y t1)), (2, .ref (za Y t2)), (3, .ref (za Y t3)), (4, .ref (za Y t4)), (5, .int v5)] 28 []) : ∀ (t1 : Nat) (t2 : Nat) (t3 : Nat) (t4 : Nat) (v5 : Int32) (tw0 : Nat) (vw1 : Int32) (vw2 : Int32) (Y : zY) (σ : zS) (cl sl : Nat), wL_law_684 L xs kb28 t1 t2 t3 t4 v5 tw0 vw1 vw2 (zsp Y) σ → zext Y0 Y → zT Y 11 t1 → zT Y 12 t2 → zT Y 24 t3 → zT Y 25 t4 → zT Y 11 tw0 → cl + (1 + (nf * 50 + 0)) ≤ 601024 → sl + (6 + (nf * 7356 + 0)) ≤ 7293034 → WW E Y σ p l e room_1 s m #[Value.ref b] below meth c (zA Y0 s.heap.size) 9 cl sl (lw_Z below #[Value.ref b] s) [(0, .ref b), (1, .ref (za Y t1)), (2, .ref (za Y t2)), (3, .ref (za Y t3)), (4, .ref (za Y t4)), (5, .int v5)] 684 [.int vw2, .int vw1, .ref (za Y tw0)] := by
  intro t1 t2 t3 t4 v5 tw0 vw1 vw2 Y σ cl sl hw hx h1 h2 h3 h4 hw0 hcl hsl
  unfold wL_law_684 at hw
  refine z_aload_n hG dL_law_684 rfl 3 rfl ?_
  refine z_callCi hG (z_runSH (As := [.ref (za Y tw0), .int vw1, .int vw2, .ref (za Y t3)]) (st := []) hG k_L_182 (ML_character l hlt hw0 h3 hw) ⟨(Nat.le_of_ble_eq_true rfl), (Nat.le_of_ble_eq_true rfl)⟩ rfl (Nat.le_of_ble_eq_true rfl) dL_law_685 ⟨show cl + 0 + 1 ≤ 601024 from by omega, show sl + 0 + 6 ≤ 7293034 from by omega⟩ rfl) (fun r2 σ1 hw => ?_)
  refine zwiden (k := cl + 1) (n := sl + 6) (show cl + 0 + 1 ≤ cl + 1 from by omega) (show sl + 0 + 6 ≤ sl + 6 from by omega) ?_
  refine z_istore (lv' := [(6, .int r2), (0, .ref b), (1, .ref (za Y t1)), (2, .ref (za Y t2)), (3, .ref (za Y t3)), (4, .ref (za Y t4)), (5, .int v5)]) hG dL_law_688 (by decide) rfl ?_
  refine z_aload_n hG dL_law_690 rfl 3 rfl ?_
  refine z_aload_n hG dL_law_691 rfl 1 rfl ?_
  refine z_iload hG dL_law_692 6 rfl ?_
  refine z_iconst (v := 1) hG dL_law_694 (by decide) ?_
  refine z_iadd hG dL_law_695 ?_
  refine z_topi (fun x3 ex3 => ?_)
  have hw := hw x3 ex3
  obtain ⟨q4, hw⟩ := hw
  refine z_lawld hG hsc q4 dL_law_696 ?_
  refine z_aload_n hG dL_law_697 rfl 1 rfl ?_
  refine z_iload hG dL_law_698 6 rfl ?_
  refine z_iconst (v := 2) hG dL_law_700 (by decide) ?_
  refine z_iadd hG dL_law_701 ?_
  refine z_topi (fun x5 ex5 => ?_)
  have hw := hw x5 ex5
  obtain ⟨q6, hw⟩ := hw
  refine z_lawld hG hsc q6 dL_law_702 ?_
  refine z_if_eq (tgt := 710) hG dL_law_703 (by decide) (fun c7 => ?_) (fun c7 => ?_)
  · have hw := hw.1 c7
    refine z_iconst (v := 0) hG dL_law_710 (by decide) ?_
    refine zpick [1, 2, 3, 4, 5, 6, 0] (lv' := [(0, .ref b), (1, .ref (za Y t1)), (2, .ref (za Y t2)), (3, .ref (za Y t3)), (4, .ref (za Y t4)), (5, .int v5), (6, .int r2)]) rfl ?_
    refine zwiden (k := cl + 1) (n := sl + 6) (by omega) (by omega) ?_
    exact BL_law_711 hlt hG hsc hkb28 t1 t2 t3 t4 v5 r2 t2 (xs x3.toNatClampNeg) 0 Y σ1 _ _ hw hx h1 h2 h3 h4 h2 (by omega) (by omega)
  · have hw := hw.2 c7
    refine z_iconst (v := 1) hG dL_law_706 (by decide) ?_
    refine z_goto (tgt := 711) hG dL_law_707 (by decide) ?_
    refine zpick [1, 2, 3, 4, 5, 6, 0] (lv' := [(0, .ref b), (1, .ref (za Y t1)), (2, .ref (za Y t2)), (3, .ref (za Y t3)), (4, .ref (za Y t4)), (5, .int v5), (6, .int r2)]) rfl ?_
    refine zwiden (k := cl + 1) (n := sl + 6) (by omega) (by omega) ?_
    exact BL_law_711 hlt hG hsc hkb28 t1 t2 t3 t4 v5 r2 t2 (xs x3.toNatClampNeg) 1 Y σ1 _ _ hw hx h1 h2 h3 h4 h2 (by omega) (by omega)
set_option maxRecDepth 100000 in
set_option maxHeartbeats 4000000 in
theorem BL_law_663 {l : Launch} (hlt : l.stackTraces = false) {E : zE} {Y0 : zY} {p : Program} {e : Env} {s : State} {m : MethodId} {b L : Nat} {xs : Nat → Int32} {below : List Frame} {meth : Method} {c : Code} (hG : zG E p l s m #[Value.ref b] meth c cL_law 9 RL (some .boolean) (zA Y0 s.heap.size)) (hsc : zLaw b L xs s Y0) {nf : Nat} {kb28 : Nat → Nat → Nat → Nat → Int32 → zSp → zS → Prop} (hkb28 : ∀ (t1 : Nat) (t2 : Nat) (t3 : Nat) (t4 : Nat) (v5 : Int32) (Y : zY) (σ : zS) (cl sl : Nat), kb28 t1 t2 t3 t4 v5 (zsp Y) σ → zext Y0 Y → zT Y 11 t1 → zT Y 12 t2 → zT Y 24 t3 → zT Y 25 t4 → cl + (nf * 50 + 0) ≤ 601024 → sl + (nf * 7356 + 0) ≤ 7293034 → WW E Y σ p l e room_1 s m #[Value.ref b] below meth c (zA Y0 s.heap.size) 9 cl sl (lw_Z below #[Value.ref b] s) [(0, .ref b), (1, .ref (za Y t1)), (2, .ref (za Y t2)), (3, .ref (za Y t3)), (4, .ref (za Y t4)), (5, .int v5)] 28 []) : ∀ (t1 : Nat) (t2 : Nat) (t3 : Nat) (t4 : Nat) (v5 : Int32) (Y : zY) (σ : zS) (cl sl : Nat), wL_law_663 L xs kb28 t1 t2 t3 t4 v5 (zsp Y) σ → zext Y0 Y → zT Y 11 t1 → zT Y 12 t2 → zT Y 24 t3 → zT Y 25 t4 → cl + (1 + (nf * 50 + 0)) ≤ 601024 → sl + (6 + (nf * 7356 + 0)) ≤ 7293034 → WW E Y σ p l e room_1 s m #[Value.ref b] below meth c (zA Y0 s.heap.size) 9 cl sl (lw_Z below #[Value.ref b] s) [(0, .ref b), (1, .ref (za Y t1)), (2, .ref (za Y t2)), (3, .ref (za Y t3)), (4, .ref (za Y t4)), (5, .int v5)] 663 [] := by
  intro t1 t2 t3 t4 v5 Y σ cl sl hw hx h1 h2 h3 h4 hcl hsl
  unfold wL_law_663 at hw
  refine z_aload_n hG dL_law_663 rfl 1 rfl ?_
  refine z_aload_n hG dL_law_664 rfl 0 rfl ?_
  refine z_iload hG dL_law_665 5 rfl ?_
  refine z_iconst (v := 1) hG dL_law_667 (by decide) ?_
  refine z_iadd hG dL_law_668 ?_
  refine z_topi (fun x1 ex1 => ?_)
  have hw := hw x1 ex1
  obtain ⟨q2, hw⟩ := hw
  refine z_lawld hG hsc q2 dL_law_669 ?_
  refine z_aload_n hG dL_law_670 rfl 0 rfl ?_
  refine z_iload hG dL_law_671 5 rfl ?_
  refine z_iconst (v := 2) hG dL_law_673 (by decide) ?_
  refine z_iadd hG dL_law_674 ?_
  refine z_topi (fun x3 ex3 => ?_)
  have hw := hw x3 ex3
  obtain ⟨q4, hw⟩ := hw
  refine z_lawld hG hsc q4 dL_law_675 ?_
  refine z_if_eq (tgt := 683) hG dL_law_676 (by decide) (fun c5 => ?_) (fun c5 => ?_)
  · have hw := hw.1 c5
    refine z_iconst (v := 0) hG dL_law_683 (by decide) ?_
    refine zpick [0, 1, 2, 3, 4, 5] (lv' := [(0, .ref b), (1, .ref (za Y t1)), (2, .ref (za Y t2)), (3, .ref (za Y t3)), (4, .ref (za Y t4)), (5, .int v5)]) rfl ?_
    exact BL_law_684 hlt hG hsc hkb28 t1 t2 t3 t4 v5 t1 (xs x1.toNatClampNeg) 0 Y σ _ _ hw hx h1 h2 h3 h4 h1 (by omega) (by omega)
  · have hw := hw.2 c5
    refine z_iconst (v := 1) hG dL_law_679 (by decide) ?_
    refine z_goto (tgt := 684) hG dL_law_680 (by decide) ?_
    refine zpick [0, 1, 2, 3, 4, 5] (lv' := [(0, .ref b), (1, .ref (za Y t1)), (2, .ref (za Y t2)), (3, .ref (za Y t3)), (4, .ref (za Y t4)), (5, .int v5)]) rfl ?_
    exact BL_law_684 hlt hG hsc hkb28 t1 t2 t3 t4 v5 t1 (xs x1.toNatClampNeg) 1 Y σ _ _ hw hx h1 h2 h3 h4 h1 (by omega) (by omega)
set_option maxRecDepth 100000 in
set_option maxHeartbeats 4000000 in
theorem BL_law_747 {l : Launch} (hlt : l.stackTraces = false) {E : zE} {Y0 : zY} {p : Program} {e : Env} {s : State} {m : MethodId} {b L : Nat} {xs : Nat → Int32} {below : List Frame} {meth : Method} {c : Code} (hG : zG E p l s m #[Value.ref b] meth c cL_law 9 RL (some .boolean) (zA Y0 s.heap.size)) (hsc : zLaw b L xs s Y0) {nf : Nat} {kb28 : Nat → Nat → Nat → Nat → Int32 → zSp → zS → Prop} (hkb28 : ∀ (t1 : Nat) (t2 : Nat) (t3 : Nat) (t4 : Nat) (v5 : Int32) (Y : zY) (σ : zS) (cl sl : Nat), kb28 t1 t2 t3 t4 v5 (zsp Y) σ → zext Y0 Y → zT Y 11 t1 → zT Y 12 t2 → zT Y 24 t3 → zT Y 25 t4 → cl + (nf * 50 + 0) ≤ 601024 → sl + (nf * 7356 + 0) ≤ 7293034 → WW E Y σ p l e room_1 s m #[Value.ref b] below meth c (zA Y0 s.heap.size) 9 cl sl (lw_Z below #[Value.ref b] s) [(0, .ref b), (1, .ref (za Y t1)), (2, .ref (za Y t2)), (3, .ref (za Y t3)), (4, .ref (za Y t4)), (5, .int v5)] 28 []) : ∀ (t1 : Nat) (t2 : Nat) (t3 : Nat) (t4 : Nat) (v5 : Int32) (Y : zY) (σ : zS) (cl sl : Nat), wL_law_747 L xs kb28 t1 t2 t3 t4 v5 (zsp Y) σ → zext Y0 Y → zT Y 11 t1 → zT Y 12 t2 → zT Y 24 t3 → zT Y 25 t4 → cl + (0 + (nf * 50 + 0)) ≤ 601024 → sl + (0 + (nf * 7356 + 0)) ≤ 7293034 → WW E Y σ p l e room_1 s m #[Value.ref b] below meth c (zA Y0 s.heap.size) 9 cl sl (lw_Z below #[Value.ref b] s) [(0, .ref b), (1, .ref (za Y t1)), (2, .ref (za Y t2)), (3, .ref (za Y t3)), (4, .ref (za Y t4)), (5, .int v5)] 747 [] := by
  intro t1 t2 t3 t4 v5 Y σ cl sl hw hx h1 h2 h3 h4 hcl hsl
  unfold wL_law_747 at hw
  refine z_aload_n hG dL_law_747 rfl 1 rfl ?_
  refine z_calli hG (z_runV (As := []) (st := []) hG k_L_186 (MX11_lead l h1 hw) ⟨(Nat.le_of_ble_eq_true rfl), (Nat.le_of_ble_eq_true rfl)⟩ h1 (T := TX11) (N := 9) rfl (by decide) rfl (Nat.le_of_ble_eq_true rfl) dL_law_748 ⟨show cl + 0 + 0 ≤ 601024 from by omega, show sl + 0 + 0 ≤ 7293034 from by omega⟩ rfl) (fun r2 σ1 hw => ?_)
  refine z_aload_n hG dL_law_751 rfl 2 rfl ?_
  refine z_calli hG (z_runV (As := []) (st := [.int r2]) hG k_L_189 (MX12_lead l h2 hw) ⟨(Nat.le_of_ble_eq_true rfl), (Nat.le_of_ble_eq_true rfl)⟩ h2 (T := TX12) (N := 23) rfl (by decide) rfl (Nat.le_of_ble_eq_true rfl) dL_law_752 ⟨show cl + 0 + 0 ≤ 601024 from by omega, show sl + 0 + 0 ≤ 7293034 from by omega⟩ rfl) (fun r4 σ3 hw => ?_)
  refine z_icmp_eq (tgt := 2768) hG dL_law_755 (by decide) (fun c5 => ?_) (fun c5 => ?_)
  · have hw := hw.1 c5
    refine zpick [0, 1, 2, 3, 4, 5] (lv' := [(0, .ref b), (1, .ref (za Y t1)), (2, .ref (za Y t2)), (3, .ref (za Y t3)), (4, .ref (za Y t4)), (5, .int v5)]) rfl ?_
    exact BL_law_2768 hlt hG hsc hkb28 t1 t2 t3 t4 v5 Y σ3 _ _ hw hx h1 h2 h3 h4 (by omega) (by omega)
  · have hw := hw.2 c5
    refine z_iconst (v := 0) hG dL_law_758 (by decide) ?_
    exact hw.elim
set_option maxRecDepth 100000 in
set_option maxHeartbeats 4000000 in
theorem BL_law_760 {l : Launch} (hlt : l.stackTraces = false) {E : zE} {Y0 : zY} {p : Program} {e : Env} {s : State} {m : MethodId} {b L : Nat} {xs : Nat → Int32} {below : List Frame} {meth : Method} {c : Code} (hG : zG E p l s m #[Value.ref b] meth c cL_law 9 RL (some .boolean) (zA Y0 s.heap.size)) (hsc : zLaw b L xs s Y0) {nf : Nat} {kb28 : Nat → Nat → Nat → Nat → Int32 → zSp → zS → Prop} (hkb28 : ∀ (t1 : Nat) (t2 : Nat) (t3 : Nat) (t4 : Nat) (v5 : Int32) (Y : zY) (σ : zS) (cl sl : Nat), kb28 t1 t2 t3 t4 v5 (zsp Y) σ → zext Y0 Y → zT Y 11 t1 → zT Y 12 t2 → zT Y 24 t3 → zT Y 25 t4 → cl + (nf * 50 + 0) ≤ 601024 → sl + (nf * 7356 + 0) ≤ 7293034 → WW E Y σ p l e room_1 s m #[Value.ref b] below meth c (zA Y0 s.heap.size) 9 cl sl (lw_Z below #[Value.ref b] s) [(0, .ref b), (1, .ref (za Y t1)), (2, .ref (za Y t2)), (3, .ref (za Y t3)), (4, .ref (za Y t4)), (5, .int v5)] 28 []) : ∀ (t1 : Nat) (t2 : Nat) (t3 : Nat) (t4 : Nat) (v5 : Int32) (Y : zY) (σ : zS) (cl sl : Nat), wL_law_760 L xs kb28 t1 t2 t3 t4 v5 (zsp Y) σ → zext Y0 Y → zT Y 11 t1 → zT Y 12 t2 → zT Y 24 t3 → zT Y 25 t4 → cl + (1 + (nf * 50 + 0)) ≤ 601024 → sl + (6 + (nf * 7356 + 0)) ≤ 7293034 → WW E Y σ p l e room_1 s m #[Value.ref b] below meth c (zA Y0 s.heap.size) 9 cl sl (lw_Z below #[Value.ref b] s) [(0, .ref b), (1, .ref (za Y t1)), (2, .ref (za Y t2)), (3, .ref (za Y t3)), (4, .ref (za Y t4)), (5, .int v5)] 760 [] := by
  intro t1 t2 t3 t4 v5 Y σ cl sl hw hx h1 h2 h3 h4 hcl hsl
  unfold wL_law_760 at hw
  refine z_aload_n hG dL_law_760 rfl 1 rfl ?_
  refine z_aload_n hG dL_law_761 rfl 0 rfl ?_
  refine z_iload hG dL_law_762 5 rfl ?_
  refine z_iconst (v := 1) hG dL_law_764 (by decide) ?_
  refine z_iadd hG dL_law_765 ?_
  refine z_topi (fun x1 ex1 => ?_)
  have hw := hw x1 ex1
  obtain ⟨q2, hw⟩ := hw
  refine z_lawld hG hsc q2 dL_law_766 ?_
  refine z_aload_n hG dL_law_767 rfl 3 rfl ?_
  obtain ⟨x3, ex3⟩ : ∃ y : Int32, y = xs x1.toNatClampNeg := ⟨_, rfl⟩
  refine zst (st' := [.ref (za Y t3), .int x3, .ref (za Y t1)]) (by rw [ex3] <;> rfl) ?_
  have hw := hw x3 ex3
  refine z_callCi hG (z_runSH (As := [.ref (za Y t1), .int x3, .ref (za Y t3)]) (st := []) hG k_L_190 (ML_lineCount l hlt h1 h3 hw) ⟨(Nat.le_of_ble_eq_true rfl), (Nat.le_of_ble_eq_true rfl)⟩ rfl (Nat.le_of_ble_eq_true rfl) dL_law_768 ⟨show cl + 0 + 1 ≤ 601024 from by omega, show sl + 0 + 6 ≤ 7293034 from by omega⟩ rfl) (fun r5 σ4 hw => ?_)
  refine zwiden (k := cl + 1) (n := sl + 6) (show cl + 0 + 1 ≤ cl + 1 from by omega) (show sl + 0 + 6 ≤ sl + 6 from by omega) ?_
  refine z_istore (lv' := [(6, .int r5), (0, .ref b), (1, .ref (za Y t1)), (2, .ref (za Y t2)), (3, .ref (za Y t3)), (4, .ref (za Y t4)), (5, .int v5)]) hG dL_law_771 (by decide) rfl ?_
  refine z_aload_n hG dL_law_773 rfl 3 rfl ?_
  refine z_aload_n hG dL_law_774 rfl 1 rfl ?_
  refine z_iload hG dL_law_775 6 rfl ?_
  refine z_iconst (v := 1) hG dL_law_777 (by decide) ?_
  refine z_iadd hG dL_law_778 ?_
  refine z_topi (fun x6 ex6 => ?_)
  have hw := hw x6 ex6
  obtain ⟨q7, hw⟩ := hw
  refine z_lawld hG hsc q7 dL_law_779 ?_
  refine z_topi (fun x8 ex8 => ?_)
  have hw := hw x8 ex8
  refine z_calli hG (z_runV (As := [.int x8]) (st := []) hG k_L_192 (MX12_lineCount l h2 hw) ⟨(Nat.le_of_ble_eq_true rfl), (Nat.le_of_ble_eq_true rfl)⟩ h2 (T := TX12) (N := 23) rfl (by decide) rfl (Nat.le_of_ble_eq_true rfl) dL_law_780 ⟨show cl + 1 + 0 ≤ 601024 from by omega, show sl + 6 + 0 ≤ 7293034 from by omega⟩ rfl) (fun r10 σ9 hw => ?_)
  refine z_istore (lv' := [(7, .int r10), (6, .int r5), (0, .ref b), (1, .ref (za Y t1)), (2, .ref (za Y t2)), (3, .ref (za Y t3)), (4, .ref (za Y t4)), (5, .int v5)]) hG dL_law_783 (by decide) rfl ?_
  refine z_aload_n hG dL_law_785 rfl 4 rfl ?_
  refine z_calli hG (z_runV (As := []) (st := []) hG k_L_149 (MX12_thrown l h2 hw) ⟨(Nat.le_of_ble_eq_true rfl), (Nat.le_of_ble_eq_true rfl)⟩ h2 (T := TX12) (N := 23) rfl (by decide) rfl (Nat.le_of_ble_eq_true rfl) dL_law_786 ⟨show cl + 1 + 0 ≤ 601024 from by omega, show sl + 6 + 0 ≤ 7293034 from by omega⟩ rfl) (fun r12 σ11 hw => ?_)
  refine z_iload hG dL_law_789 1 rfl ?_
  refine z_icmp_eq (tgt := 796) hG dL_law_791 (by decide) (fun c16 => ?_) (fun c16 => ?_)
  · have hw := hw.1 c16
    refine z_iload hG dL_law_796 1 rfl ?_
    refine z_if_ne (tgt := 813) hG dL_law_798 (by decide) (fun c15 => ?_) (fun c15 => ?_)
    · have hw := hw.2 c15
      refine z_goto (tgt := 2768) hG dL_law_813 (by decide) ?_
      refine zpick [2, 3, 4, 5, 6, 7] (lv' := [(0, .ref b), (1, .ref (za Y t1)), (2, .ref (za Y t2)), (3, .ref (za Y t3)), (4, .ref (za Y t4)), (5, .int v5)]) rfl ?_
      refine zwiden (k := cl + 1) (n := sl + 6) (by omega) (by omega) ?_
      exact BL_law_2768 hlt hG hsc hkb28 t1 t2 t3 t4 v5 Y σ11 _ _ hw hx h1 h2 h3 h4 (by omega) (by omega)
    · have hw := hw.1 c15
      refine z_aload_n hG dL_law_801 rfl 5 rfl ?_
      refine z_iconst (v := 0) hG dL_law_802 (by decide) ?_
      obtain ⟨q13, hw⟩ := hw
      refine z_lald hG h3 q13 dL_law_803 ?_
      refine z_iload hG dL_law_804 0 rfl ?_
      refine z_i2l hG dL_law_806 ?_
      refine z_lcmp hG dL_law_807 ?_
      refine z_if_eq (tgt := 813) hG dL_law_808 (by decide) (fun c14 => ?_) (fun c14 => ?_)
      · have hw := hw.1 c14
        refine z_goto (tgt := 2768) hG dL_law_813 (by decide) ?_
        refine zpick [2, 3, 4, 5, 6, 7] (lv' := [(0, .ref b), (1, .ref (za Y t1)), (2, .ref (za Y t2)), (3, .ref (za Y t3)), (4, .ref (za Y t4)), (5, .int v5)]) rfl ?_
        refine zwiden (k := cl + 1) (n := sl + 6) (by omega) (by omega) ?_
        exact BL_law_2768 hlt hG hsc hkb28 t1 t2 t3 t4 v5 Y σ11 _ _ hw hx h1 h2 h3 h4 (by omega) (by omega)
      · have hw := hw.2 c14
        refine z_iconst (v := 0) hG dL_law_811 (by decide) ?_
        exact hw.elim
  · have hw := hw.2 c16
    refine z_iconst (v := 0) hG dL_law_794 (by decide) ?_
    exact hw.elim
set_option maxRecDepth 100000 in
set_option maxHeartbeats 4000000 in
theorem BL_law_816 {l : Launch} (hlt : l.stackTraces = false) {E : zE} {Y0 : zY} {p : Program} {e : Env} {s : State} {m : MethodId} {b L : Nat} {xs : Nat → Int32} {below : List Frame} {meth : Method} {c : Code} (hG : zG E p l s m #[Value.ref b] meth c cL_law 9 RL (some .boolean) (zA Y0 s.heap.size)) (hsc : zLaw b L xs s Y0) {nf : Nat} {kb28 : Nat → Nat → Nat → Nat → Int32 → zSp → zS → Prop} (hkb28 : ∀ (t1 : Nat) (t2 : Nat) (t3 : Nat) (t4 : Nat) (v5 : Int32) (Y : zY) (σ : zS) (cl sl : Nat), kb28 t1 t2 t3 t4 v5 (zsp Y) σ → zext Y0 Y → zT Y 11 t1 → zT Y 12 t2 → zT Y 24 t3 → zT Y 25 t4 → cl + (nf * 50 + 0) ≤ 601024 → sl + (nf * 7356 + 0) ≤ 7293034 → WW E Y σ p l e room_1 s m #[Value.ref b] below meth c (zA Y0 s.heap.size) 9 cl sl (lw_Z below #[Value.ref b] s) [(0, .ref b), (1, .ref (za Y t1)), (2, .ref (za Y t2)), (3, .ref (za Y t3)), (4, .ref (za Y t4)), (5, .int v5)] 28 []) : ∀ (t1 : Nat) (t2 : Nat) (t3 : Nat) (t4 : Nat) (v5 : Int32) (Y : zY) (σ : zS) (cl sl : Nat), wL_law_816 L xs kb28 t1 t2 t3 t4 v5 (zsp Y) σ → zext Y0 Y → zT Y 11 t1 → zT Y 12 t2 → zT Y 24 t3 → zT Y 25 t4 → cl + (1 + (nf * 50 + 0)) ≤ 601024 → sl + (6 + (nf * 7356 + 0)) ≤ 7293034 → WW E Y σ p l e room_1 s m #[Value.ref b] below meth c (zA Y0 s.heap.size) 9 cl sl (lw_Z below #[Value.ref b] s) [(0, .ref b), (1, .ref (za Y t1)), (2, .ref (za Y t2)), (3, .ref (za Y t3)), (4, .ref (za Y t4)), (5, .int v5)] 816 [] := by
  intro t1 t2 t3 t4 v5 Y σ cl sl hw hx h1 h2 h3 h4 hcl hsl
  unfold wL_law_816 at hw
  refine z_aload_n hG dL_law_816 rfl 1 rfl ?_
  refine z_aload_n hG dL_law_817 rfl 0 rfl ?_
  refine z_iload hG dL_law_818 5 rfl ?_
  refine z_iconst (v := 1) hG dL_law_820 (by decide) ?_
  refine z_iadd hG dL_law_821 ?_
  refine z_topi (fun x1 ex1 => ?_)
  have hw := hw x1 ex1
  obtain ⟨q2, hw⟩ := hw
  refine z_lawld hG hsc q2 dL_law_822 ?_
  refine z_aload_n hG dL_law_823 rfl 3 rfl ?_
  obtain ⟨x3, ex3⟩ : ∃ y : Int32, y = xs x1.toNatClampNeg := ⟨_, rfl⟩
  refine zst (st' := [.ref (za Y t3), .int x3, .ref (za Y t1)]) (by rw [ex3] <;> rfl) ?_
  have hw := hw x3 ex3
  refine z_callCi hG (z_runSH (As := [.ref (za Y t1), .int x3, .ref (za Y t3)]) (st := []) hG k_L_193 (ML_linesDone l hlt h1 h3 hw) ⟨(Nat.le_of_ble_eq_true rfl), (Nat.le_of_ble_eq_true rfl)⟩ rfl (Nat.le_of_ble_eq_true rfl) dL_law_824 ⟨show cl + 0 + 1 ≤ 601024 from by omega, show sl + 0 + 6 ≤ 7293034 from by omega⟩ rfl) (fun r5 σ4 hw => ?_)
  refine zwiden (k := cl + 1) (n := sl + 6) (show cl + 0 + 1 ≤ cl + 1 from by omega) (show sl + 0 + 6 ≤ sl + 6 from by omega) ?_
  refine z_istore (lv' := [(6, .int r5), (0, .ref b), (1, .ref (za Y t1)), (2, .ref (za Y t2)), (3, .ref (za Y t3)), (4, .ref (za Y t4)), (5, .int v5)]) hG dL_law_827 (by decide) rfl ?_
  refine z_aload_n hG dL_law_829 rfl 3 rfl ?_
  refine z_aload_n hG dL_law_830 rfl 1 rfl ?_
  refine z_iload hG dL_law_831 6 rfl ?_
  refine z_iconst (v := 1) hG dL_law_833 (by decide) ?_
  refine z_iadd hG dL_law_834 ?_
  refine z_topi (fun x6 ex6 => ?_)
  have hw := hw x6 ex6
  obtain ⟨q7, hw⟩ := hw
  refine z_lawld hG hsc q7 dL_law_835 ?_
  refine z_topi (fun x8 ex8 => ?_)
  have hw := hw x8 ex8
  refine z_calli hG (z_runV (As := [.int x8]) (st := []) hG k_L_195 (MX12_linesDone l h2 hw) ⟨(Nat.le_of_ble_eq_true rfl), (Nat.le_of_ble_eq_true rfl)⟩ h2 (T := TX12) (N := 23) rfl (by decide) rfl (Nat.le_of_ble_eq_true rfl) dL_law_836 ⟨show cl + 1 + 0 ≤ 601024 from by omega, show sl + 6 + 0 ≤ 7293034 from by omega⟩ rfl) (fun r10 σ9 hw => ?_)
  refine z_istore (lv' := [(7, .int r10), (6, .int r5), (0, .ref b), (1, .ref (za Y t1)), (2, .ref (za Y t2)), (3, .ref (za Y t3)), (4, .ref (za Y t4)), (5, .int v5)]) hG dL_law_839 (by decide) rfl ?_
  refine z_aload_n hG dL_law_841 rfl 4 rfl ?_
  refine z_calli hG (z_runV (As := []) (st := []) hG k_L_149 (MX12_thrown l h2 hw) ⟨(Nat.le_of_ble_eq_true rfl), (Nat.le_of_ble_eq_true rfl)⟩ h2 (T := TX12) (N := 23) rfl (by decide) rfl (Nat.le_of_ble_eq_true rfl) dL_law_842 ⟨show cl + 1 + 0 ≤ 601024 from by omega, show sl + 6 + 0 ≤ 7293034 from by omega⟩ rfl) (fun r12 σ11 hw => ?_)
  refine z_iload hG dL_law_845 1 rfl ?_
  refine z_icmp_eq (tgt := 852) hG dL_law_847 (by decide) (fun c16 => ?_) (fun c16 => ?_)
  · have hw := hw.1 c16
    refine z_iload hG dL_law_852 1 rfl ?_
    refine z_if_ne (tgt := 869) hG dL_law_854 (by decide) (fun c15 => ?_) (fun c15 => ?_)
    · have hw := hw.2 c15
      refine z_goto (tgt := 2768) hG dL_law_869 (by decide) ?_
      refine zpick [2, 3, 4, 5, 6, 7] (lv' := [(0, .ref b), (1, .ref (za Y t1)), (2, .ref (za Y t2)), (3, .ref (za Y t3)), (4, .ref (za Y t4)), (5, .int v5)]) rfl ?_
      refine zwiden (k := cl + 1) (n := sl + 6) (by omega) (by omega) ?_
      exact BL_law_2768 hlt hG hsc hkb28 t1 t2 t3 t4 v5 Y σ11 _ _ hw hx h1 h2 h3 h4 (by omega) (by omega)
    · have hw := hw.1 c15
      refine z_aload_n hG dL_law_857 rfl 5 rfl ?_
      refine z_iconst (v := 0) hG dL_law_858 (by decide) ?_
      obtain ⟨q13, hw⟩ := hw
      refine z_lald hG h3 q13 dL_law_859 ?_
      refine z_iload hG dL_law_860 0 rfl ?_
      refine z_i2l hG dL_law_862 ?_
      refine z_lcmp hG dL_law_863 ?_
      refine z_if_eq (tgt := 869) hG dL_law_864 (by decide) (fun c14 => ?_) (fun c14 => ?_)
      · have hw := hw.1 c14
        refine z_goto (tgt := 2768) hG dL_law_869 (by decide) ?_
        refine zpick [2, 3, 4, 5, 6, 7] (lv' := [(0, .ref b), (1, .ref (za Y t1)), (2, .ref (za Y t2)), (3, .ref (za Y t3)), (4, .ref (za Y t4)), (5, .int v5)]) rfl ?_
        refine zwiden (k := cl + 1) (n := sl + 6) (by omega) (by omega) ?_
        exact BL_law_2768 hlt hG hsc hkb28 t1 t2 t3 t4 v5 Y σ11 _ _ hw hx h1 h2 h3 h4 (by omega) (by omega)
      · have hw := hw.2 c14
        refine z_iconst (v := 0) hG dL_law_867 (by decide) ?_
        exact hw.elim
  · have hw := hw.2 c16
    refine z_iconst (v := 0) hG dL_law_850 (by decide) ?_
    exact hw.elim
set_option maxRecDepth 100000 in
set_option maxHeartbeats 4000000 in
theorem BL_law_872 {l : Launch} (hlt : l.stackTraces = false) {E : zE} {Y0 : zY} {p : Program} {e : Env} {s : State} {m : MethodId} {b L : Nat} {xs : Nat → Int32} {below : List Frame} {meth : Method} {c : Code} (hG : zG E p l s m #[Value.ref b] meth c cL_law 9 RL (some .boolean) (zA Y0 s.heap.size)) (hsc : zLaw b L xs s Y0) {nf : Nat} {kb28 : Nat → Nat → Nat → Nat → Int32 → zSp → zS → Prop} (hkb28 : ∀ (t1 : Nat) (t2 : Nat) (t3 : Nat) (t4 : Nat) (v5 : Int32) (Y : zY) (σ : zS) (cl sl : Nat), kb28 t1 t2 t3 t4 v5 (zsp Y) σ → zext Y0 Y → zT Y 11 t1 → zT Y 12 t2 → zT Y 24 t3 → zT Y 25 t4 → cl + (nf * 50 + 0) ≤ 601024 → sl + (nf * 7356 + 0) ≤ 7293034 → WW E Y σ p l e room_1 s m #[Value.ref b] below meth c (zA Y0 s.heap.size) 9 cl sl (lw_Z below #[Value.ref b] s) [(0, .ref b), (1, .ref (za Y t1)), (2, .ref (za Y t2)), (3, .ref (za Y t3)), (4, .ref (za Y t4)), (5, .int v5)] 28 []) : ∀ (t1 : Nat) (t2 : Nat) (t3 : Nat) (t4 : Nat) (v5 : Int32) (Y : zY) (σ : zS) (cl sl : Nat), wL_law_872 L xs kb28 t1 t2 t3 t4 v5 (zsp Y) σ → zext Y0 Y → zT Y 11 t1 → zT Y 12 t2 → zT Y 24 t3 → zT Y 25 t4 → cl + (2 + (nf * 50 + 0)) ≤ 601024 → sl + (12 + (nf * 7356 + 0)) ≤ 7293034 → WW E Y σ p l e room_1 s m #[Value.ref b] below meth c (zA Y0 s.heap.size) 9 cl sl (lw_Z below #[Value.ref b] s) [(0, .ref b), (1, .ref (za Y t1)), (2, .ref (za Y t2)), (3, .ref (za Y t3)), (4, .ref (za Y t4)), (5, .int v5)] 872 [] := by
  intro t1 t2 t3 t4 v5 Y σ cl sl hw hx h1 h2 h3 h4 hcl hsl
  unfold wL_law_872 at hw
  refine z_aload_n hG dL_law_872 rfl 1 rfl ?_
  refine z_aload_n hG dL_law_873 rfl 0 rfl ?_
  refine z_iload hG dL_law_874 5 rfl ?_
  refine z_iconst (v := 1) hG dL_law_876 (by decide) ?_
  refine z_iadd hG dL_law_877 ?_
  refine z_topi (fun x1 ex1 => ?_)
  have hw := hw x1 ex1
  obtain ⟨q2, hw⟩ := hw
  refine z_lawld hG hsc q2 dL_law_878 ?_
  refine z_aload_n hG dL_law_879 rfl 0 rfl ?_
  refine z_iload hG dL_law_880 5 rfl ?_
  refine z_iconst (v := 2) hG dL_law_882 (by decide) ?_
  refine z_iadd hG dL_law_883 ?_
  refine z_topi (fun x3 ex3 => ?_)
  have hw := hw x3 ex3
  obtain ⟨q4, hw⟩ := hw
  refine z_lawld hG hsc q4 dL_law_884 ?_
  refine z_aload_n hG dL_law_885 rfl 3 rfl ?_
  obtain ⟨x5, ex5⟩ : ∃ y : Int32, y = xs x3.toNatClampNeg := ⟨_, rfl⟩
  refine zst (st' := [.ref (za Y t3), .int x5, .int (xs x1.toNatClampNeg), .ref (za Y t1)]) (by rw [ex5] <;> rfl) ?_
  have hw := hw x5 ex5
  obtain ⟨x6, ex6⟩ : ∃ y : Int32, y = xs x1.toNatClampNeg := ⟨_, rfl⟩
  refine zst (st' := [.ref (za Y t3), .int x5, .int x6, .ref (za Y t1)]) (by rw [ex6] <;> rfl) ?_
  have hw := hw x6 ex6
  refine z_callCi hG (z_runSH (As := [.ref (za Y t1), .int x6, .int x5, .ref (za Y t3)]) (st := []) hG k_L_196 (ML_lineLength l hlt h1 h3 hw) ⟨(Nat.le_of_ble_eq_true rfl), (Nat.le_of_ble_eq_true rfl)⟩ rfl (Nat.le_of_ble_eq_true rfl) dL_law_886 ⟨show cl + 0 + 2 ≤ 601024 from by omega, show sl + 0 + 12 ≤ 7293034 from by omega⟩ rfl) (fun r8 σ7 hw => ?_)
  refine zwiden (k := cl + 2) (n := sl + 12) (show cl + 0 + 2 ≤ cl + 2 from by omega) (show sl + 0 + 12 ≤ sl + 12 from by omega) ?_
  refine z_istore (lv' := [(6, .int r8), (0, .ref b), (1, .ref (za Y t1)), (2, .ref (za Y t2)), (3, .ref (za Y t3)), (4, .ref (za Y t4)), (5, .int v5)]) hG dL_law_889 (by decide) rfl ?_
  refine z_aload_n hG dL_law_891 rfl 3 rfl ?_
  refine z_aload_n hG dL_law_892 rfl 1 rfl ?_
  refine z_iload hG dL_law_893 6 rfl ?_
  refine z_iconst (v := 1) hG dL_law_895 (by decide) ?_
  refine z_iadd hG dL_law_896 ?_
  refine z_topi (fun x9 ex9 => ?_)
  have hw := hw x9 ex9
  obtain ⟨q10, hw⟩ := hw
  refine z_lawld hG hsc q10 dL_law_897 ?_
  refine z_aload_n hG dL_law_898 rfl 1 rfl ?_
  refine z_iload hG dL_law_899 6 rfl ?_
  refine z_iconst (v := 2) hG dL_law_901 (by decide) ?_
  refine z_iadd hG dL_law_902 ?_
  refine z_topi (fun x11 ex11 => ?_)
  have hw := hw x11 ex11
  obtain ⟨q12, hw⟩ := hw
  refine z_lawld hG hsc q12 dL_law_903 ?_
  refine z_topi (fun x13 ex13 => ?_)
  have hw := hw x13 ex13
  obtain ⟨x14, ex14⟩ : ∃ y : Int32, y = xs x9.toNatClampNeg := ⟨_, rfl⟩
  refine zst (st' := [.int x13, .int x14, .ref (za Y t2)]) (by rw [ex14] <;> rfl) ?_
  have hw := hw x14 ex14
  refine z_calli hG (z_runV (As := [.int x14, .int x13]) (st := []) hG k_L_199 (MX12_lineLength l h2 hw) ⟨(Nat.le_of_ble_eq_true rfl), (Nat.le_of_ble_eq_true rfl)⟩ h2 (T := TX12) (N := 23) rfl (by decide) rfl (Nat.le_of_ble_eq_true rfl) dL_law_904 ⟨show cl + 2 + 0 ≤ 601024 from by omega, show sl + 12 + 0 ≤ 7293034 from by omega⟩ rfl) (fun r16 σ15 hw => ?_)
  refine z_istore (lv' := [(7, .int r16), (6, .int r8), (0, .ref b), (1, .ref (za Y t1)), (2, .ref (za Y t2)), (3, .ref (za Y t3)), (4, .ref (za Y t4)), (5, .int v5)]) hG dL_law_907 (by decide) rfl ?_
  refine z_aload_n hG dL_law_909 rfl 4 rfl ?_
  refine z_calli hG (z_runV (As := []) (st := []) hG k_L_149 (MX12_thrown l h2 hw) ⟨(Nat.le_of_ble_eq_true rfl), (Nat.le_of_ble_eq_true rfl)⟩ h2 (T := TX12) (N := 23) rfl (by decide) rfl (Nat.le_of_ble_eq_true rfl) dL_law_910 ⟨show cl + 2 + 0 ≤ 601024 from by omega, show sl + 12 + 0 ≤ 7293034 from by omega⟩ rfl) (fun r18 σ17 hw => ?_)
  refine z_iload hG dL_law_913 1 rfl ?_
  refine z_icmp_eq (tgt := 920) hG dL_law_915 (by decide) (fun c22 => ?_) (fun c22 => ?_)
  · have hw := hw.1 c22
    refine z_iload hG dL_law_920 1 rfl ?_
    refine z_if_ne (tgt := 937) hG dL_law_922 (by decide) (fun c21 => ?_) (fun c21 => ?_)
    · have hw := hw.2 c21
      refine z_goto (tgt := 2768) hG dL_law_937 (by decide) ?_
      refine zpick [2, 3, 4, 5, 6, 7] (lv' := [(0, .ref b), (1, .ref (za Y t1)), (2, .ref (za Y t2)), (3, .ref (za Y t3)), (4, .ref (za Y t4)), (5, .int v5)]) rfl ?_
      refine zwiden (k := cl + 2) (n := sl + 12) (by omega) (by omega) ?_
      exact BL_law_2768 hlt hG hsc hkb28 t1 t2 t3 t4 v5 Y σ17 _ _ hw hx h1 h2 h3 h4 (by omega) (by omega)
    · have hw := hw.1 c21
      refine z_aload_n hG dL_law_925 rfl 5 rfl ?_
      refine z_iconst (v := 0) hG dL_law_926 (by decide) ?_
      obtain ⟨q19, hw⟩ := hw
      refine z_lald hG h3 q19 dL_law_927 ?_
      refine z_iload hG dL_law_928 0 rfl ?_
      refine z_i2l hG dL_law_930 ?_
      refine z_lcmp hG dL_law_931 ?_
      refine z_if_eq (tgt := 937) hG dL_law_932 (by decide) (fun c20 => ?_) (fun c20 => ?_)
      · have hw := hw.1 c20
        refine z_goto (tgt := 2768) hG dL_law_937 (by decide) ?_
        refine zpick [2, 3, 4, 5, 6, 7] (lv' := [(0, .ref b), (1, .ref (za Y t1)), (2, .ref (za Y t2)), (3, .ref (za Y t3)), (4, .ref (za Y t4)), (5, .int v5)]) rfl ?_
        refine zwiden (k := cl + 2) (n := sl + 12) (by omega) (by omega) ?_
        exact BL_law_2768 hlt hG hsc hkb28 t1 t2 t3 t4 v5 Y σ17 _ _ hw hx h1 h2 h3 h4 (by omega) (by omega)
      · have hw := hw.2 c20
        refine z_iconst (v := 0) hG dL_law_935 (by decide) ?_
        exact hw.elim
  · have hw := hw.2 c22
    refine z_iconst (v := 0) hG dL_law_918 (by decide) ?_
    exact hw.elim
set_option maxRecDepth 100000 in
set_option maxHeartbeats 4000000 in
theorem BL_law_940 {l : Launch} (hlt : l.stackTraces = false) {E : zE} {Y0 : zY} {p : Program} {e : Env} {s : State} {m : MethodId} {b L : Nat} {xs : Nat → Int32} {below : List Frame} {meth : Method} {c : Code} (hG : zG E p l s m #[Value.ref b] meth c cL_law 9 RL (some .boolean) (zA Y0 s.heap.size)) (hsc : zLaw b L xs s Y0) {nf : Nat} {kb28 : Nat → Nat → Nat → Nat → Int32 → zSp → zS → Prop} (hkb28 : ∀ (t1 : Nat) (t2 : Nat) (t3 : Nat) (t4 : Nat) (v5 : Int32) (Y : zY) (σ : zS) (cl sl : Nat), kb28 t1 t2 t3 t4 v5 (zsp Y) σ → zext Y0 Y → zT Y 11 t1 → zT Y 12 t2 → zT Y 24 t3 → zT Y 25 t4 → cl + (nf * 50 + 0) ≤ 601024 → sl + (nf * 7356 + 0) ≤ 7293034 → WW E Y σ p l e room_1 s m #[Value.ref b] below meth c (zA Y0 s.heap.size) 9 cl sl (lw_Z below #[Value.ref b] s) [(0, .ref b), (1, .ref (za Y t1)), (2, .ref (za Y t2)), (3, .ref (za Y t3)), (4, .ref (za Y t4)), (5, .int v5)] 28 []) : ∀ (t1 : Nat) (t2 : Nat) (t3 : Nat) (t4 : Nat) (v5 : Int32) (Y : zY) (σ : zS) (cl sl : Nat), wL_law_940 L xs kb28 t1 t2 t3 t4 v5 (zsp Y) σ → zext Y0 Y → zT Y 11 t1 → zT Y 12 t2 → zT Y 24 t3 → zT Y 25 t4 → cl + (2 + (nf * 50 + 0)) ≤ 601024 → sl + (12 + (nf * 7356 + 0)) ≤ 7293034 → WW E Y σ p l e room_1 s m #[Value.ref b] below meth c (zA Y0 s.heap.size) 9 cl sl (lw_Z below #[Value.ref b] s) [(0, .ref b), (1, .ref (za Y t1)), (2, .ref (za Y t2)), (3, .ref (za Y t3)), (4, .ref (za Y t4)), (5, .int v5)] 940 [] := by
  intro t1 t2 t3 t4 v5 Y σ cl sl hw hx h1 h2 h3 h4 hcl hsl
  unfold wL_law_940 at hw
  refine z_aload_n hG dL_law_940 rfl 1 rfl ?_
  refine z_aload_n hG dL_law_941 rfl 0 rfl ?_
  refine z_iload hG dL_law_942 5 rfl ?_
  refine z_iconst (v := 1) hG dL_law_944 (by decide) ?_
  refine z_iadd hG dL_law_945 ?_
  refine z_topi (fun x1 ex1 => ?_)
  have hw := hw x1 ex1
  obtain ⟨q2, hw⟩ := hw
  refine z_lawld hG hsc q2 dL_law_946 ?_
  refine z_aload_n hG dL_law_947 rfl 0 rfl ?_
  refine z_iload hG dL_law_948 5 rfl ?_
  refine z_iconst (v := 2) hG dL_law_950 (by decide) ?_
  refine z_iadd hG dL_law_951 ?_
  refine z_topi (fun x3 ex3 => ?_)
  have hw := hw x3 ex3
  obtain ⟨q4, hw⟩ := hw
  refine z_lawld hG hsc q4 dL_law_952 ?_
  refine z_aload_n hG dL_law_953 rfl 3 rfl ?_
  obtain ⟨x5, ex5⟩ : ∃ y : Int32, y = xs x3.toNatClampNeg := ⟨_, rfl⟩
  refine zst (st' := [.ref (za Y t3), .int x5, .int (xs x1.toNatClampNeg), .ref (za Y t1)]) (by rw [ex5] <;> rfl) ?_
  have hw := hw x5 ex5
  obtain ⟨x6, ex6⟩ : ∃ y : Int32, y = xs x1.toNatClampNeg := ⟨_, rfl⟩
  refine zst (st' := [.ref (za Y t3), .int x5, .int x6, .ref (za Y t1)]) (by rw [ex6] <;> rfl) ?_
  have hw := hw x6 ex6
  refine z_callCi hG (z_runSH (As := [.ref (za Y t1), .int x6, .int x5, .ref (za Y t3)]) (st := []) hG k_L_200 (ML_pulsesOf l hlt h1 h3 hw) ⟨(Nat.le_of_ble_eq_true rfl), (Nat.le_of_ble_eq_true rfl)⟩ rfl (Nat.le_of_ble_eq_true rfl) dL_law_954 ⟨show cl + 0 + 2 ≤ 601024 from by omega, show sl + 0 + 12 ≤ 7293034 from by omega⟩ rfl) (fun r8 σ7 hw => ?_)
  refine zwiden (k := cl + 2) (n := sl + 12) (show cl + 0 + 2 ≤ cl + 2 from by omega) (show sl + 0 + 12 ≤ sl + 12 from by omega) ?_
  refine z_istore (lv' := [(6, .int r8), (0, .ref b), (1, .ref (za Y t1)), (2, .ref (za Y t2)), (3, .ref (za Y t3)), (4, .ref (za Y t4)), (5, .int v5)]) hG dL_law_957 (by decide) rfl ?_
  refine z_aload_n hG dL_law_959 rfl 3 rfl ?_
  refine z_aload_n hG dL_law_960 rfl 1 rfl ?_
  refine z_iload hG dL_law_961 6 rfl ?_
  refine z_iconst (v := 1) hG dL_law_963 (by decide) ?_
  refine z_iadd hG dL_law_964 ?_
  refine z_topi (fun x9 ex9 => ?_)
  have hw := hw x9 ex9
  obtain ⟨q10, hw⟩ := hw
  refine z_lawld hG hsc q10 dL_law_965 ?_
  refine z_aload_n hG dL_law_966 rfl 1 rfl ?_
  refine z_iload hG dL_law_967 6 rfl ?_
  refine z_iconst (v := 2) hG dL_law_969 (by decide) ?_
  refine z_iadd hG dL_law_970 ?_
  refine z_topi (fun x11 ex11 => ?_)
  have hw := hw x11 ex11
  obtain ⟨q12, hw⟩ := hw
  refine z_lawld hG hsc q12 dL_law_971 ?_
  refine z_topi (fun x13 ex13 => ?_)
  have hw := hw x13 ex13
  obtain ⟨x14, ex14⟩ : ∃ y : Int32, y = xs x9.toNatClampNeg := ⟨_, rfl⟩
  refine zst (st' := [.int x13, .int x14, .ref (za Y t2)]) (by rw [ex14] <;> rfl) ?_
  have hw := hw x14 ex14
  refine z_calli hG (z_runV (As := [.int x14, .int x13]) (st := []) hG k_L_202 (MX12_pulsesOf l h2 hw) ⟨(Nat.le_of_ble_eq_true rfl), (Nat.le_of_ble_eq_true rfl)⟩ h2 (T := TX12) (N := 23) rfl (by decide) rfl (Nat.le_of_ble_eq_true rfl) dL_law_972 ⟨show cl + 2 + 0 ≤ 601024 from by omega, show sl + 12 + 0 ≤ 7293034 from by omega⟩ rfl) (fun r16 σ15 hw => ?_)
  refine z_istore (lv' := [(7, .int r16), (6, .int r8), (0, .ref b), (1, .ref (za Y t1)), (2, .ref (za Y t2)), (3, .ref (za Y t3)), (4, .ref (za Y t4)), (5, .int v5)]) hG dL_law_975 (by decide) rfl ?_
  refine z_aload_n hG dL_law_977 rfl 4 rfl ?_
  refine z_calli hG (z_runV (As := []) (st := []) hG k_L_149 (MX12_thrown l h2 hw) ⟨(Nat.le_of_ble_eq_true rfl), (Nat.le_of_ble_eq_true rfl)⟩ h2 (T := TX12) (N := 23) rfl (by decide) rfl (Nat.le_of_ble_eq_true rfl) dL_law_978 ⟨show cl + 2 + 0 ≤ 601024 from by omega, show sl + 12 + 0 ≤ 7293034 from by omega⟩ rfl) (fun r18 σ17 hw => ?_)
  refine z_iload hG dL_law_981 1 rfl ?_
  refine z_icmp_eq (tgt := 988) hG dL_law_983 (by decide) (fun c22 => ?_) (fun c22 => ?_)
  · have hw := hw.1 c22
    refine z_iload hG dL_law_988 1 rfl ?_
    refine z_if_ne (tgt := 1005) hG dL_law_990 (by decide) (fun c21 => ?_) (fun c21 => ?_)
    · have hw := hw.2 c21
      refine z_goto (tgt := 2768) hG dL_law_1005 (by decide) ?_
      refine zpick [2, 3, 4, 5, 6, 7] (lv' := [(0, .ref b), (1, .ref (za Y t1)), (2, .ref (za Y t2)), (3, .ref (za Y t3)), (4, .ref (za Y t4)), (5, .int v5)]) rfl ?_
      refine zwiden (k := cl + 2) (n := sl + 12) (by omega) (by omega) ?_
      exact BL_law_2768 hlt hG hsc hkb28 t1 t2 t3 t4 v5 Y σ17 _ _ hw hx h1 h2 h3 h4 (by omega) (by omega)
    · have hw := hw.1 c21
      refine z_aload_n hG dL_law_993 rfl 5 rfl ?_
      refine z_iconst (v := 0) hG dL_law_994 (by decide) ?_
      obtain ⟨q19, hw⟩ := hw
      refine z_lald hG h3 q19 dL_law_995 ?_
      refine z_iload hG dL_law_996 0 rfl ?_
      refine z_i2l hG dL_law_998 ?_
      refine z_lcmp hG dL_law_999 ?_
      refine z_if_eq (tgt := 1005) hG dL_law_1000 (by decide) (fun c20 => ?_) (fun c20 => ?_)
      · have hw := hw.1 c20
        refine z_goto (tgt := 2768) hG dL_law_1005 (by decide) ?_
        refine zpick [2, 3, 4, 5, 6, 7] (lv' := [(0, .ref b), (1, .ref (za Y t1)), (2, .ref (za Y t2)), (3, .ref (za Y t3)), (4, .ref (za Y t4)), (5, .int v5)]) rfl ?_
        refine zwiden (k := cl + 2) (n := sl + 12) (by omega) (by omega) ?_
        exact BL_law_2768 hlt hG hsc hkb28 t1 t2 t3 t4 v5 Y σ17 _ _ hw hx h1 h2 h3 h4 (by omega) (by omega)
      · have hw := hw.2 c20
        refine z_iconst (v := 0) hG dL_law_1003 (by decide) ?_
        exact hw.elim
  · have hw := hw.2 c22
    refine z_iconst (v := 0) hG dL_law_986 (by decide) ?_
    exact hw.elim
set_option maxRecDepth 100000 in
set_option maxHeartbeats 4000000 in
theorem BL_law_1008 {l : Launch} (hlt : l.stackTraces = false) {E : zE} {Y0 : zY} {p : Program} {e : Env} {s : State} {m : MethodId} {b L : Nat} {xs : Nat → Int32} {below : List Frame} {meth : Method} {c : Code} (hG : zG E p l s m #[Value.ref b] meth c cL_law 9 RL (some .boolean) (zA Y0 s.heap.size)) (hsc : zLaw b L xs s Y0) {nf : Nat} {kb28 : Nat → Nat → Nat → Nat → Int32 → zSp → zS → Prop} (hkb28 : ∀ (t1 : Nat) (t2 : Nat) (t3 : Nat) (t4 : Nat) (v5 : Int32) (Y : zY) (σ : zS) (cl sl : Nat), kb28 t1 t2 t3 t4 v5 (zsp Y) σ → zext Y0 Y → zT Y 11 t1 → zT Y 12 t2 → zT Y 24 t3 → zT Y 25 t4 → cl + (nf * 50 + 0) ≤ 601024 → sl + (nf * 7356 + 0) ≤ 7293034 → WW E Y σ p l e room_1 s m #[Value.ref b] below meth c (zA Y0 s.heap.size) 9 cl sl (lw_Z below #[Value.ref b] s) [(0, .ref b), (1, .ref (za Y t1)), (2, .ref (za Y t2)), (3, .ref (za Y t3)), (4, .ref (za Y t4)), (5, .int v5)] 28 []) : ∀ (t1 : Nat) (t2 : Nat) (t3 : Nat) (t4 : Nat) (v5 : Int32) (Y : zY) (σ : zS) (cl sl : Nat), wL_law_1008 L xs kb28 t1 t2 t3 t4 v5 (zsp Y) σ → zext Y0 Y → zT Y 11 t1 → zT Y 12 t2 → zT Y 24 t3 → zT Y 25 t4 → cl + (3 + (nf * 50 + 0)) ≤ 601024 → sl + (18 + (nf * 7356 + 0)) ≤ 7293034 → WW E Y σ p l e room_1 s m #[Value.ref b] below meth c (zA Y0 s.heap.size) 9 cl sl (lw_Z below #[Value.ref b] s) [(0, .ref b), (1, .ref (za Y t1)), (2, .ref (za Y t2)), (3, .ref (za Y t3)), (4, .ref (za Y t4)), (5, .int v5)] 1008 [] := by
  intro t1 t2 t3 t4 v5 Y σ cl sl hw hx h1 h2 h3 h4 hcl hsl
  unfold wL_law_1008 at hw
  refine z_aload_n hG dL_law_1008 rfl 1 rfl ?_
  refine z_aload_n hG dL_law_1009 rfl 0 rfl ?_
  refine z_iload hG dL_law_1010 5 rfl ?_
  refine z_iconst (v := 1) hG dL_law_1012 (by decide) ?_
  refine z_iadd hG dL_law_1013 ?_
  refine z_topi (fun x1 ex1 => ?_)
  have hw := hw x1 ex1
  obtain ⟨q2, hw⟩ := hw
  refine z_lawld hG hsc q2 dL_law_1014 ?_
  refine z_aload_n hG dL_law_1015 rfl 0 rfl ?_
  refine z_iload hG dL_law_1016 5 rfl ?_
  refine z_iconst (v := 2) hG dL_law_1018 (by decide) ?_
  refine z_iadd hG dL_law_1019 ?_
  refine z_topi (fun x3 ex3 => ?_)
  have hw := hw x3 ex3
  obtain ⟨q4, hw⟩ := hw
  refine z_lawld hG hsc q4 dL_law_1020 ?_
  refine z_aload_n hG dL_law_1021 rfl 0 rfl ?_
  refine z_iload hG dL_law_1022 5 rfl ?_
  refine z_iconst (v := 3) hG dL_law_1024 (by decide) ?_
  refine z_iadd hG dL_law_1025 ?_
  refine z_topi (fun x5 ex5 => ?_)
  have hw := hw x5 ex5
  obtain ⟨q6, hw⟩ := hw
  refine z_lawld hG hsc q6 dL_law_1026 ?_
  refine z_aload_n hG dL_law_1027 rfl 3 rfl ?_
  obtain ⟨x7, ex7⟩ : ∃ y : Int32, y = xs x5.toNatClampNeg := ⟨_, rfl⟩
  refine zst (st' := [.ref (za Y t3), .int x7, .int (xs x3.toNatClampNeg), .int (xs x1.toNatClampNeg), .ref (za Y t1)]) (by rw [ex7] <;> rfl) ?_
  have hw := hw x7 ex7
  obtain ⟨x8, ex8⟩ : ∃ y : Int32, y = xs x3.toNatClampNeg := ⟨_, rfl⟩
  refine zst (st' := [.ref (za Y t3), .int x7, .int x8, .int (xs x1.toNatClampNeg), .ref (za Y t1)]) (by rw [ex8] <;> rfl) ?_
  have hw := hw x8 ex8
  obtain ⟨x9, ex9⟩ : ∃ y : Int32, y = xs x1.toNatClampNeg := ⟨_, rfl⟩
  refine zst (st' := [.ref (za Y t3), .int x7, .int x8, .int x9, .ref (za Y t1)]) (by rw [ex9] <;> rfl) ?_
  have hw := hw x9 ex9
  refine z_callCi hG (z_runSH (As := [.ref (za Y t1), .int x9, .int x8, .int x7, .ref (za Y t3)]) (st := []) hG k_L_203 (ML_pulseOf l hlt h1 h3 hw) ⟨(Nat.le_of_ble_eq_true rfl), (Nat.le_of_ble_eq_true rfl)⟩ rfl (Nat.le_of_ble_eq_true rfl) dL_law_1028 ⟨show cl + 0 + 3 ≤ 601024 from by omega, show sl + 0 + 18 ≤ 7293034 from by omega⟩ rfl) (fun r11 σ10 hw => ?_)
  refine zwiden (k := cl + 3) (n := sl + 18) (show cl + 0 + 3 ≤ cl + 3 from by omega) (show sl + 0 + 18 ≤ sl + 18 from by omega) ?_
  refine z_istore (lv' := [(6, .int r11), (0, .ref b), (1, .ref (za Y t1)), (2, .ref (za Y t2)), (3, .ref (za Y t3)), (4, .ref (za Y t4)), (5, .int v5)]) hG dL_law_1031 (by decide) rfl ?_
  refine z_aload_n hG dL_law_1033 rfl 3 rfl ?_
  refine z_aload_n hG dL_law_1034 rfl 1 rfl ?_
  refine z_iload hG dL_law_1035 6 rfl ?_
  refine z_iconst (v := 1) hG dL_law_1037 (by decide) ?_
  refine z_iadd hG dL_law_1038 ?_
  refine z_topi (fun x12 ex12 => ?_)
  have hw := hw x12 ex12
  obtain ⟨q13, hw⟩ := hw
  refine z_lawld hG hsc q13 dL_law_1039 ?_
  refine z_aload_n hG dL_law_1040 rfl 1 rfl ?_
  refine z_iload hG dL_law_1041 6 rfl ?_
  refine z_iconst (v := 2) hG dL_law_1043 (by decide) ?_
  refine z_iadd hG dL_law_1044 ?_
  refine z_topi (fun x14 ex14 => ?_)
  have hw := hw x14 ex14
  obtain ⟨q15, hw⟩ := hw
  refine z_lawld hG hsc q15 dL_law_1045 ?_
  refine z_aload_n hG dL_law_1046 rfl 1 rfl ?_
  refine z_iload hG dL_law_1047 6 rfl ?_
  refine z_iconst (v := 3) hG dL_law_1049 (by decide) ?_
  refine z_iadd hG dL_law_1050 ?_
  refine z_topi (fun x16 ex16 => ?_)
  have hw := hw x16 ex16
  obtain ⟨q17, hw⟩ := hw
  refine z_lawld hG hsc q17 dL_law_1051 ?_
  refine z_topi (fun x18 ex18 => ?_)
  have hw := hw x18 ex18
  obtain ⟨x19, ex19⟩ : ∃ y : Int32, y = xs x14.toNatClampNeg := ⟨_, rfl⟩
  refine zst (st' := [.int x18, .int x19, .int (xs x12.toNatClampNeg), .ref (za Y t2)]) (by rw [ex19] <;> rfl) ?_
  have hw := hw x19 ex19
  obtain ⟨x20, ex20⟩ : ∃ y : Int32, y = xs x12.toNatClampNeg := ⟨_, rfl⟩
  refine zst (st' := [.int x18, .int x19, .int x20, .ref (za Y t2)]) (by rw [ex20] <;> rfl) ?_
  have hw := hw x20 ex20
  refine z_calli hG (z_runV (As := [.int x20, .int x19, .int x18]) (st := []) hG k_L_206 (MX12_pulseOf l h2 hw) ⟨(Nat.le_of_ble_eq_true rfl), (Nat.le_of_ble_eq_true rfl)⟩ h2 (T := TX12) (N := 23) rfl (by decide) rfl (Nat.le_of_ble_eq_true rfl) dL_law_1052 ⟨show cl + 3 + 0 ≤ 601024 from by omega, show sl + 18 + 0 ≤ 7293034 from by omega⟩ rfl) (fun r22 σ21 hw => ?_)
  refine z_istore (lv' := [(7, .int r22), (6, .int r11), (0, .ref b), (1, .ref (za Y t1)), (2, .ref (za Y t2)), (3, .ref (za Y t3)), (4, .ref (za Y t4)), (5, .int v5)]) hG dL_law_1055 (by decide) rfl ?_
  refine z_aload_n hG dL_law_1057 rfl 4 rfl ?_
  refine z_calli hG (z_runV (As := []) (st := []) hG k_L_149 (MX12_thrown l h2 hw) ⟨(Nat.le_of_ble_eq_true rfl), (Nat.le_of_ble_eq_true rfl)⟩ h2 (T := TX12) (N := 23) rfl (by decide) rfl (Nat.le_of_ble_eq_true rfl) dL_law_1058 ⟨show cl + 3 + 0 ≤ 601024 from by omega, show sl + 18 + 0 ≤ 7293034 from by omega⟩ rfl) (fun r24 σ23 hw => ?_)
  refine z_iload hG dL_law_1061 1 rfl ?_
  refine z_icmp_eq (tgt := 1068) hG dL_law_1063 (by decide) (fun c28 => ?_) (fun c28 => ?_)
  · have hw := hw.1 c28
    refine z_iload hG dL_law_1068 1 rfl ?_
    refine z_if_ne (tgt := 1085) hG dL_law_1070 (by decide) (fun c27 => ?_) (fun c27 => ?_)
    · have hw := hw.2 c27
      refine z_goto (tgt := 2768) hG dL_law_1085 (by decide) ?_
      refine zpick [2, 3, 4, 5, 6, 7] (lv' := [(0, .ref b), (1, .ref (za Y t1)), (2, .ref (za Y t2)), (3, .ref (za Y t3)), (4, .ref (za Y t4)), (5, .int v5)]) rfl ?_
      refine zwiden (k := cl + 3) (n := sl + 18) (by omega) (by omega) ?_
      exact BL_law_2768 hlt hG hsc hkb28 t1 t2 t3 t4 v5 Y σ23 _ _ hw hx h1 h2 h3 h4 (by omega) (by omega)
    · have hw := hw.1 c27
      refine z_aload_n hG dL_law_1073 rfl 5 rfl ?_
      refine z_iconst (v := 0) hG dL_law_1074 (by decide) ?_
      obtain ⟨q25, hw⟩ := hw
      refine z_lald hG h3 q25 dL_law_1075 ?_
      refine z_iload hG dL_law_1076 0 rfl ?_
      refine z_i2l hG dL_law_1078 ?_
      refine z_lcmp hG dL_law_1079 ?_
      refine z_if_eq (tgt := 1085) hG dL_law_1080 (by decide) (fun c26 => ?_) (fun c26 => ?_)
      · have hw := hw.1 c26
        refine z_goto (tgt := 2768) hG dL_law_1085 (by decide) ?_
        refine zpick [2, 3, 4, 5, 6, 7] (lv' := [(0, .ref b), (1, .ref (za Y t1)), (2, .ref (za Y t2)), (3, .ref (za Y t3)), (4, .ref (za Y t4)), (5, .int v5)]) rfl ?_
        refine zwiden (k := cl + 3) (n := sl + 18) (by omega) (by omega) ?_
        exact BL_law_2768 hlt hG hsc hkb28 t1 t2 t3 t4 v5 Y σ23 _ _ hw hx h1 h2 h3 h4 (by omega) (by omega)
      · have hw := hw.2 c26
        refine z_iconst (v := 0) hG dL_law_1083 (by decide) ?_
        exact hw.elim
  · have hw := hw.2 c28
    refine z_iconst (v := 0) hG dL_law_1066 (by decide) ?_
    exact hw.elim
set_option maxRecDepth 100000 in
set_option maxHeartbeats 4000000 in
theorem BL_law_1088 {l : Launch} (hlt : l.stackTraces = false) {E : zE} {Y0 : zY} {p : Program} {e : Env} {s : State} {m : MethodId} {b L : Nat} {xs : Nat → Int32} {below : List Frame} {meth : Method} {c : Code} (hG : zG E p l s m #[Value.ref b] meth c cL_law 9 RL (some .boolean) (zA Y0 s.heap.size)) (hsc : zLaw b L xs s Y0) {nf : Nat} {kb28 : Nat → Nat → Nat → Nat → Int32 → zSp → zS → Prop} (hkb28 : ∀ (t1 : Nat) (t2 : Nat) (t3 : Nat) (t4 : Nat) (v5 : Int32) (Y : zY) (σ : zS) (cl sl : Nat), kb28 t1 t2 t3 t4 v5 (zsp Y) σ → zext Y0 Y → zT Y 11 t1 → zT Y 12 t2 → zT Y 24 t3 → zT Y 25 t4 → cl + (nf * 50 + 0) ≤ 601024 → sl + (nf * 7356 + 0) ≤ 7293034 → WW E Y σ p l e room_1 s m #[Value.ref b] below meth c (zA Y0 s.heap.size) 9 cl sl (lw_Z below #[Value.ref b] s) [(0, .ref b), (1, .ref (za Y t1)), (2, .ref (za Y t2)), (3, .ref (za Y t3)), (4, .ref (za Y t4)), (5, .int v5)] 28 []) : ∀ (t1 : Nat) (t2 : Nat) (t3 : Nat) (t4 : Nat) (v5 : Int32) (Y : zY) (σ : zS) (cl sl : Nat), wL_law_1088 L xs kb28 t1 t2 t3 t4 v5 (zsp Y) σ → zext Y0 Y → zT Y 11 t1 → zT Y 12 t2 → zT Y 24 t3 → zT Y 25 t4 → cl + (3 + (nf * 50 + 0)) ≤ 601024 → sl + (18 + (nf * 7356 + 0)) ≤ 7293034 → WW E Y σ p l e room_1 s m #[Value.ref b] below meth c (zA Y0 s.heap.size) 9 cl sl (lw_Z below #[Value.ref b] s) [(0, .ref b), (1, .ref (za Y t1)), (2, .ref (za Y t2)), (3, .ref (za Y t3)), (4, .ref (za Y t4)), (5, .int v5)] 1088 [] := by
  intro t1 t2 t3 t4 v5 Y σ cl sl hw hx h1 h2 h3 h4 hcl hsl
  unfold wL_law_1088 at hw
  refine z_aload_n hG dL_law_1088 rfl 1 rfl ?_
  refine z_aload_n hG dL_law_1089 rfl 0 rfl ?_
  refine z_iload hG dL_law_1090 5 rfl ?_
  refine z_iconst (v := 1) hG dL_law_1092 (by decide) ?_
  refine z_iadd hG dL_law_1093 ?_
  refine z_topi (fun x1 ex1 => ?_)
  have hw := hw x1 ex1
  obtain ⟨q2, hw⟩ := hw
  refine z_lawld hG hsc q2 dL_law_1094 ?_
  refine z_aload_n hG dL_law_1095 rfl 0 rfl ?_
  refine z_iload hG dL_law_1096 5 rfl ?_
  refine z_iconst (v := 2) hG dL_law_1098 (by decide) ?_
  refine z_iadd hG dL_law_1099 ?_
  refine z_topi (fun x3 ex3 => ?_)
  have hw := hw x3 ex3
  obtain ⟨q4, hw⟩ := hw
  refine z_lawld hG hsc q4 dL_law_1100 ?_
  refine z_aload_n hG dL_law_1101 rfl 3 rfl ?_
  obtain ⟨x5, ex5⟩ : ∃ y : Int32, y = xs x3.toNatClampNeg := ⟨_, rfl⟩
  refine zst (st' := [.ref (za Y t3), .int x5, .int (xs x1.toNatClampNeg), .ref (za Y t1)]) (by rw [ex5] <;> rfl) ?_
  have hw := hw x5 ex5
  obtain ⟨x6, ex6⟩ : ∃ y : Int32, y = xs x1.toNatClampNeg := ⟨_, rfl⟩
  refine zst (st' := [.ref (za Y t3), .int x5, .int x6, .ref (za Y t1)]) (by rw [ex6] <;> rfl) ?_
  have hw := hw x6 ex6
  refine z_callCi hG (z_runSH (As := [.ref (za Y t1), .int x6, .int x5, .ref (za Y t3)]) (st := []) hG k_L_207 (ML_ticksFor l hlt h1 h3 hw) ⟨(Nat.le_of_ble_eq_true rfl), (Nat.le_of_ble_eq_true rfl)⟩ rfl (Nat.le_of_ble_eq_true rfl) dL_law_1102 ⟨show cl + 0 + 3 ≤ 601024 from by omega, show sl + 0 + 18 ≤ 7293034 from by omega⟩ rfl) (fun r8 σ7 hw => ?_)
  refine zwiden (k := cl + 3) (n := sl + 18) (show cl + 0 + 3 ≤ cl + 3 from by omega) (show sl + 0 + 18 ≤ sl + 18 from by omega) ?_
  refine z_istore (lv' := [(6, .int r8), (0, .ref b), (1, .ref (za Y t1)), (2, .ref (za Y t2)), (3, .ref (za Y t3)), (4, .ref (za Y t4)), (5, .int v5)]) hG dL_law_1105 (by decide) rfl ?_
  refine z_aload_n hG dL_law_1107 rfl 3 rfl ?_
  refine z_aload_n hG dL_law_1108 rfl 1 rfl ?_
  refine z_iload hG dL_law_1109 6 rfl ?_
  refine z_iconst (v := 1) hG dL_law_1111 (by decide) ?_
  refine z_iadd hG dL_law_1112 ?_
  refine z_topi (fun x9 ex9 => ?_)
  have hw := hw x9 ex9
  obtain ⟨q10, hw⟩ := hw
  refine z_lawld hG hsc q10 dL_law_1113 ?_
  refine z_aload_n hG dL_law_1114 rfl 1 rfl ?_
  refine z_iload hG dL_law_1115 6 rfl ?_
  refine z_iconst (v := 2) hG dL_law_1117 (by decide) ?_
  refine z_iadd hG dL_law_1118 ?_
  refine z_topi (fun x11 ex11 => ?_)
  have hw := hw x11 ex11
  obtain ⟨q12, hw⟩ := hw
  refine z_lawld hG hsc q12 dL_law_1119 ?_
  refine z_topi (fun x13 ex13 => ?_)
  have hw := hw x13 ex13
  obtain ⟨x14, ex14⟩ : ∃ y : Int32, y = xs x9.toNatClampNeg := ⟨_, rfl⟩
  refine zst (st' := [.int x13, .int x14, .ref (za Y t2)]) (by rw [ex14] <;> rfl) ?_
  have hw := hw x14 ex14
  refine z_calli hG (z_runV (As := [.int x14, .int x13]) (st := []) hG k_L_209 (MX12_ticksFor l h2 hw) ⟨(Nat.le_of_ble_eq_true rfl), (Nat.le_of_ble_eq_true rfl)⟩ h2 (T := TX12) (N := 23) rfl (by decide) rfl (Nat.le_of_ble_eq_true rfl) dL_law_1120 ⟨show cl + 3 + 0 ≤ 601024 from by omega, show sl + 18 + 0 ≤ 7293034 from by omega⟩ rfl) (fun r16 σ15 hw => ?_)
  refine z_istore (lv' := [(7, .int r16), (6, .int r8), (0, .ref b), (1, .ref (za Y t1)), (2, .ref (za Y t2)), (3, .ref (za Y t3)), (4, .ref (za Y t4)), (5, .int v5)]) hG dL_law_1123 (by decide) rfl ?_
  refine z_aload_n hG dL_law_1125 rfl 4 rfl ?_
  refine z_calli hG (z_runV (As := []) (st := []) hG k_L_149 (MX12_thrown l h2 hw) ⟨(Nat.le_of_ble_eq_true rfl), (Nat.le_of_ble_eq_true rfl)⟩ h2 (T := TX12) (N := 23) rfl (by decide) rfl (Nat.le_of_ble_eq_true rfl) dL_law_1126 ⟨show cl + 3 + 0 ≤ 601024 from by omega, show sl + 18 + 0 ≤ 7293034 from by omega⟩ rfl) (fun r18 σ17 hw => ?_)
  refine z_iload hG dL_law_1129 1 rfl ?_
  refine z_icmp_eq (tgt := 1136) hG dL_law_1131 (by decide) (fun c22 => ?_) (fun c22 => ?_)
  · have hw := hw.1 c22
    refine z_iload hG dL_law_1136 1 rfl ?_
    refine z_if_ne (tgt := 1153) hG dL_law_1138 (by decide) (fun c21 => ?_) (fun c21 => ?_)
    · have hw := hw.2 c21
      refine z_goto (tgt := 2768) hG dL_law_1153 (by decide) ?_
      refine zpick [2, 3, 4, 5, 6, 7] (lv' := [(0, .ref b), (1, .ref (za Y t1)), (2, .ref (za Y t2)), (3, .ref (za Y t3)), (4, .ref (za Y t4)), (5, .int v5)]) rfl ?_
      refine zwiden (k := cl + 3) (n := sl + 18) (by omega) (by omega) ?_
      exact BL_law_2768 hlt hG hsc hkb28 t1 t2 t3 t4 v5 Y σ17 _ _ hw hx h1 h2 h3 h4 (by omega) (by omega)
    · have hw := hw.1 c21
      refine z_aload_n hG dL_law_1141 rfl 5 rfl ?_
      refine z_iconst (v := 0) hG dL_law_1142 (by decide) ?_
      obtain ⟨q19, hw⟩ := hw
      refine z_lald hG h3 q19 dL_law_1143 ?_
      refine z_iload hG dL_law_1144 0 rfl ?_
      refine z_i2l hG dL_law_1146 ?_
      refine z_lcmp hG dL_law_1147 ?_
      refine z_if_eq (tgt := 1153) hG dL_law_1148 (by decide) (fun c20 => ?_) (fun c20 => ?_)
      · have hw := hw.1 c20
        refine z_goto (tgt := 2768) hG dL_law_1153 (by decide) ?_
        refine zpick [2, 3, 4, 5, 6, 7] (lv' := [(0, .ref b), (1, .ref (za Y t1)), (2, .ref (za Y t2)), (3, .ref (za Y t3)), (4, .ref (za Y t4)), (5, .int v5)]) rfl ?_
        refine zwiden (k := cl + 3) (n := sl + 18) (by omega) (by omega) ?_
        exact BL_law_2768 hlt hG hsc hkb28 t1 t2 t3 t4 v5 Y σ17 _ _ hw hx h1 h2 h3 h4 (by omega) (by omega)
      · have hw := hw.2 c20
        refine z_iconst (v := 0) hG dL_law_1151 (by decide) ?_
        exact hw.elim
  · have hw := hw.2 c22
    refine z_iconst (v := 0) hG dL_law_1134 (by decide) ?_
    exact hw.elim
set_option maxRecDepth 100000 in
set_option maxHeartbeats 4000000 in
theorem BL_law_1156 {l : Launch} (hlt : l.stackTraces = false) {E : zE} {Y0 : zY} {p : Program} {e : Env} {s : State} {m : MethodId} {b L : Nat} {xs : Nat → Int32} {below : List Frame} {meth : Method} {c : Code} (hG : zG E p l s m #[Value.ref b] meth c cL_law 9 RL (some .boolean) (zA Y0 s.heap.size)) (hsc : zLaw b L xs s Y0) {nf : Nat} {kb28 : Nat → Nat → Nat → Nat → Int32 → zSp → zS → Prop} (hkb28 : ∀ (t1 : Nat) (t2 : Nat) (t3 : Nat) (t4 : Nat) (v5 : Int32) (Y : zY) (σ : zS) (cl sl : Nat), kb28 t1 t2 t3 t4 v5 (zsp Y) σ → zext Y0 Y → zT Y 11 t1 → zT Y 12 t2 → zT Y 24 t3 → zT Y 25 t4 → cl + (nf * 50 + 0) ≤ 601024 → sl + (nf * 7356 + 0) ≤ 7293034 → WW E Y σ p l e room_1 s m #[Value.ref b] below meth c (zA Y0 s.heap.size) 9 cl sl (lw_Z below #[Value.ref b] s) [(0, .ref b), (1, .ref (za Y t1)), (2, .ref (za Y t2)), (3, .ref (za Y t3)), (4, .ref (za Y t4)), (5, .int v5)] 28 []) : ∀ (t1 : Nat) (t2 : Nat) (t3 : Nat) (t4 : Nat) (v5 : Int32) (Y : zY) (σ : zS) (cl sl : Nat), wL_law_1156 L xs kb28 t1 t2 t3 t4 v5 (zsp Y) σ → zext Y0 Y → zT Y 11 t1 → zT Y 12 t2 → zT Y 24 t3 → zT Y 25 t4 → cl + (1 + (nf * 50 + 0)) ≤ 601024 → sl + (6 + (nf * 7356 + 0)) ≤ 7293034 → WW E Y σ p l e room_1 s m #[Value.ref b] below meth c (zA Y0 s.heap.size) 9 cl sl (lw_Z below #[Value.ref b] s) [(0, .ref b), (1, .ref (za Y t1)), (2, .ref (za Y t2)), (3, .ref (za Y t3)), (4, .ref (za Y t4)), (5, .int v5)] 1156 [] := by
  intro t1 t2 t3 t4 v5 Y σ cl sl hw hx h1 h2 h3 h4 hcl hsl
  unfold wL_law_1156 at hw
  refine z_aload_n hG dL_law_1156 rfl 1 rfl ?_
  refine z_aload_n hG dL_law_1157 rfl 0 rfl ?_
  refine z_iload hG dL_law_1158 5 rfl ?_
  refine z_iconst (v := 1) hG dL_law_1160 (by decide) ?_
  refine z_iadd hG dL_law_1161 ?_
  refine z_topi (fun x1 ex1 => ?_)
  have hw := hw x1 ex1
  obtain ⟨q2, hw⟩ := hw
  refine z_lawld hG hsc q2 dL_law_1162 ?_
  refine z_aload_n hG dL_law_1163 rfl 3 rfl ?_
  obtain ⟨x3, ex3⟩ : ∃ y : Int32, y = xs x1.toNatClampNeg := ⟨_, rfl⟩
  refine zst (st' := [.ref (za Y t3), .int x3, .ref (za Y t1)]) (by rw [ex3] <;> rfl) ?_
  have hw := hw x3 ex3
  refine z_callCi hG (z_runSH (As := [.ref (za Y t1), .int x3, .ref (za Y t3)]) (st := []) hG k_L_210 (ML_slowestLine l hlt h1 h3 hw) ⟨(Nat.le_of_ble_eq_true rfl), (Nat.le_of_ble_eq_true rfl)⟩ rfl (Nat.le_of_ble_eq_true rfl) dL_law_1164 ⟨show cl + 0 + 1 ≤ 601024 from by omega, show sl + 0 + 6 ≤ 7293034 from by omega⟩ rfl) (fun r5 σ4 hw => ?_)
  refine zwiden (k := cl + 1) (n := sl + 6) (show cl + 0 + 1 ≤ cl + 1 from by omega) (show sl + 0 + 6 ≤ sl + 6 from by omega) ?_
  refine z_istore (lv' := [(6, .int r5), (0, .ref b), (1, .ref (za Y t1)), (2, .ref (za Y t2)), (3, .ref (za Y t3)), (4, .ref (za Y t4)), (5, .int v5)]) hG dL_law_1167 (by decide) rfl ?_
  refine z_aload_n hG dL_law_1169 rfl 3 rfl ?_
  refine z_aload_n hG dL_law_1170 rfl 1 rfl ?_
  refine z_iload hG dL_law_1171 6 rfl ?_
  refine z_iconst (v := 1) hG dL_law_1173 (by decide) ?_
  refine z_iadd hG dL_law_1174 ?_
  refine z_topi (fun x6 ex6 => ?_)
  have hw := hw x6 ex6
  obtain ⟨q7, hw⟩ := hw
  refine z_lawld hG hsc q7 dL_law_1175 ?_
  refine z_topi (fun x8 ex8 => ?_)
  have hw := hw x8 ex8
  refine z_calli hG (z_runV (As := [.int x8]) (st := []) hG k_L_212 (MX12_slowestLine l h2 hw) ⟨(Nat.le_of_ble_eq_true rfl), (Nat.le_of_ble_eq_true rfl)⟩ h2 (T := TX12) (N := 23) rfl (by decide) rfl (Nat.le_of_ble_eq_true rfl) dL_law_1176 ⟨show cl + 1 + 0 ≤ 601024 from by omega, show sl + 6 + 0 ≤ 7293034 from by omega⟩ rfl) (fun r10 σ9 hw => ?_)
  refine z_istore (lv' := [(7, .int r10), (6, .int r5), (0, .ref b), (1, .ref (za Y t1)), (2, .ref (za Y t2)), (3, .ref (za Y t3)), (4, .ref (za Y t4)), (5, .int v5)]) hG dL_law_1179 (by decide) rfl ?_
  refine z_aload_n hG dL_law_1181 rfl 4 rfl ?_
  refine z_calli hG (z_runV (As := []) (st := []) hG k_L_149 (MX12_thrown l h2 hw) ⟨(Nat.le_of_ble_eq_true rfl), (Nat.le_of_ble_eq_true rfl)⟩ h2 (T := TX12) (N := 23) rfl (by decide) rfl (Nat.le_of_ble_eq_true rfl) dL_law_1182 ⟨show cl + 1 + 0 ≤ 601024 from by omega, show sl + 6 + 0 ≤ 7293034 from by omega⟩ rfl) (fun r12 σ11 hw => ?_)
  refine z_iload hG dL_law_1185 1 rfl ?_
  refine z_icmp_eq (tgt := 1192) hG dL_law_1187 (by decide) (fun c16 => ?_) (fun c16 => ?_)
  · have hw := hw.1 c16
    refine z_iload hG dL_law_1192 1 rfl ?_
    refine z_if_ne (tgt := 1209) hG dL_law_1194 (by decide) (fun c15 => ?_) (fun c15 => ?_)
    · have hw := hw.2 c15
      refine z_goto (tgt := 2768) hG dL_law_1209 (by decide) ?_
      refine zpick [2, 3, 4, 5, 6, 7] (lv' := [(0, .ref b), (1, .ref (za Y t1)), (2, .ref (za Y t2)), (3, .ref (za Y t3)), (4, .ref (za Y t4)), (5, .int v5)]) rfl ?_
      refine zwiden (k := cl + 1) (n := sl + 6) (by omega) (by omega) ?_
      exact BL_law_2768 hlt hG hsc hkb28 t1 t2 t3 t4 v5 Y σ11 _ _ hw hx h1 h2 h3 h4 (by omega) (by omega)
    · have hw := hw.1 c15
      refine z_aload_n hG dL_law_1197 rfl 5 rfl ?_
      refine z_iconst (v := 0) hG dL_law_1198 (by decide) ?_
      obtain ⟨q13, hw⟩ := hw
      refine z_lald hG h3 q13 dL_law_1199 ?_
      refine z_iload hG dL_law_1200 0 rfl ?_
      refine z_i2l hG dL_law_1202 ?_
      refine z_lcmp hG dL_law_1203 ?_
      refine z_if_eq (tgt := 1209) hG dL_law_1204 (by decide) (fun c14 => ?_) (fun c14 => ?_)
      · have hw := hw.1 c14
        refine z_goto (tgt := 2768) hG dL_law_1209 (by decide) ?_
        refine zpick [2, 3, 4, 5, 6, 7] (lv' := [(0, .ref b), (1, .ref (za Y t1)), (2, .ref (za Y t2)), (3, .ref (za Y t3)), (4, .ref (za Y t4)), (5, .int v5)]) rfl ?_
        refine zwiden (k := cl + 1) (n := sl + 6) (by omega) (by omega) ?_
        exact BL_law_2768 hlt hG hsc hkb28 t1 t2 t3 t4 v5 Y σ11 _ _ hw hx h1 h2 h3 h4 (by omega) (by omega)
      · have hw := hw.2 c14
        refine z_iconst (v := 0) hG dL_law_1207 (by decide) ?_
        exact hw.elim
  · have hw := hw.2 c16
    refine z_iconst (v := 0) hG dL_law_1190 (by decide) ?_
    exact hw.elim
set_option maxRecDepth 100000 in
set_option maxHeartbeats 4000000 in
theorem BL_law_1212 {l : Launch} (hlt : l.stackTraces = false) {E : zE} {Y0 : zY} {p : Program} {e : Env} {s : State} {m : MethodId} {b L : Nat} {xs : Nat → Int32} {below : List Frame} {meth : Method} {c : Code} (hG : zG E p l s m #[Value.ref b] meth c cL_law 9 RL (some .boolean) (zA Y0 s.heap.size)) (hsc : zLaw b L xs s Y0) {nf : Nat} {kb28 : Nat → Nat → Nat → Nat → Int32 → zSp → zS → Prop} (hkb28 : ∀ (t1 : Nat) (t2 : Nat) (t3 : Nat) (t4 : Nat) (v5 : Int32) (Y : zY) (σ : zS) (cl sl : Nat), kb28 t1 t2 t3 t4 v5 (zsp Y) σ → zext Y0 Y → zT Y 11 t1 → zT Y 12 t2 → zT Y 24 t3 → zT Y 25 t4 → cl + (nf * 50 + 0) ≤ 601024 → sl + (nf * 7356 + 0) ≤ 7293034 → WW E Y σ p l e room_1 s m #[Value.ref b] below meth c (zA Y0 s.heap.size) 9 cl sl (lw_Z below #[Value.ref b] s) [(0, .ref b), (1, .ref (za Y t1)), (2, .ref (za Y t2)), (3, .ref (za Y t3)), (4, .ref (za Y t4)), (5, .int v5)] 28 []) : ∀ (t1 : Nat) (t2 : Nat) (t3 : Nat) (t4 : Nat) (v5 : Int32) (Y : zY) (σ : zS) (cl sl : Nat), wL_law_1212 L xs kb28 t1 t2 t3 t4 v5 (zsp Y) σ → zext Y0 Y → zT Y 11 t1 → zT Y 12 t2 → zT Y 24 t3 → zT Y 25 t4 → cl + (0 + (nf * 50 + 0)) ≤ 601024 → sl + (0 + (nf * 7356 + 0)) ≤ 7293034 → WW E Y σ p l e room_1 s m #[Value.ref b] below meth c (zA Y0 s.heap.size) 9 cl sl (lw_Z below #[Value.ref b] s) [(0, .ref b), (1, .ref (za Y t1)), (2, .ref (za Y t2)), (3, .ref (za Y t3)), (4, .ref (za Y t4)), (5, .int v5)] 1212 [] := by
  intro t1 t2 t3 t4 v5 Y σ cl sl hw hx h1 h2 h3 h4 hcl hsl
  unfold wL_law_1212 at hw
  refine z_aload_n hG dL_law_1212 rfl 1 rfl ?_
  refine z_calli hG (z_runV (As := []) (st := []) hG k_L_213 (MX11_sender l h1 hw) ⟨(Nat.le_of_ble_eq_true rfl), (Nat.le_of_ble_eq_true rfl)⟩ h1 (T := TX11) (N := 9) rfl (by decide) rfl (Nat.le_of_ble_eq_true rfl) dL_law_1213 ⟨show cl + 0 + 0 ≤ 601024 from by omega, show sl + 0 + 0 ≤ 7293034 from by omega⟩ rfl) (fun r2 σ1 hw => ?_)
  refine z_aload_n hG dL_law_1216 rfl 2 rfl ?_
  refine z_calli hG (z_runV (As := []) (st := [.int r2]) hG k_L_216 (MX12_sender l h2 hw) ⟨(Nat.le_of_ble_eq_true rfl), (Nat.le_of_ble_eq_true rfl)⟩ h2 (T := TX12) (N := 23) rfl (by decide) rfl (Nat.le_of_ble_eq_true rfl) dL_law_1217 ⟨show cl + 0 + 0 ≤ 601024 from by omega, show sl + 0 + 0 ≤ 7293034 from by omega⟩ rfl) (fun r4 σ3 hw => ?_)
  refine z_icmp_eq (tgt := 2768) hG dL_law_1220 (by decide) (fun c5 => ?_) (fun c5 => ?_)
  · have hw := hw.1 c5
    refine zpick [0, 1, 2, 3, 4, 5] (lv' := [(0, .ref b), (1, .ref (za Y t1)), (2, .ref (za Y t2)), (3, .ref (za Y t3)), (4, .ref (za Y t4)), (5, .int v5)]) rfl ?_
    exact BL_law_2768 hlt hG hsc hkb28 t1 t2 t3 t4 v5 Y σ3 _ _ hw hx h1 h2 h3 h4 (by omega) (by omega)
  · have hw := hw.2 c5
    refine z_iconst (v := 0) hG dL_law_1223 (by decide) ?_
    exact hw.elim
set_option maxRecDepth 100000 in
set_option maxHeartbeats 4000000 in
theorem BL_law_1225 {l : Launch} (hlt : l.stackTraces = false) {E : zE} {Y0 : zY} {p : Program} {e : Env} {s : State} {m : MethodId} {b L : Nat} {xs : Nat → Int32} {below : List Frame} {meth : Method} {c : Code} (hG : zG E p l s m #[Value.ref b] meth c cL_law 9 RL (some .boolean) (zA Y0 s.heap.size)) (hsc : zLaw b L xs s Y0) {nf : Nat} {kb28 : Nat → Nat → Nat → Nat → Int32 → zSp → zS → Prop} (hkb28 : ∀ (t1 : Nat) (t2 : Nat) (t3 : Nat) (t4 : Nat) (v5 : Int32) (Y : zY) (σ : zS) (cl sl : Nat), kb28 t1 t2 t3 t4 v5 (zsp Y) σ → zext Y0 Y → zT Y 11 t1 → zT Y 12 t2 → zT Y 24 t3 → zT Y 25 t4 → cl + (nf * 50 + 0) ≤ 601024 → sl + (nf * 7356 + 0) ≤ 7293034 → WW E Y σ p l e room_1 s m #[Value.ref b] below meth c (zA Y0 s.heap.size) 9 cl sl (lw_Z below #[Value.ref b] s) [(0, .ref b), (1, .ref (za Y t1)), (2, .ref (za Y t2)), (3, .ref (za Y t3)), (4, .ref (za Y t4)), (5, .int v5)] 28 []) : ∀ (t1 : Nat) (t2 : Nat) (t3 : Nat) (t4 : Nat) (v5 : Int32) (Y : zY) (σ : zS) (cl sl : Nat), wL_law_1225 L xs kb28 t1 t2 t3 t4 v5 (zsp Y) σ → zext Y0 Y → zT Y 11 t1 → zT Y 12 t2 → zT Y 24 t3 → zT Y 25 t4 → cl + (0 + (nf * 50 + 0)) ≤ 601024 → sl + (0 + (nf * 7356 + 0)) ≤ 7293034 → WW E Y σ p l e room_1 s m #[Value.ref b] below meth c (zA Y0 s.heap.size) 9 cl sl (lw_Z below #[Value.ref b] s) [(0, .ref b), (1, .ref (za Y t1)), (2, .ref (za Y t2)), (3, .ref (za Y t3)), (4, .ref (za Y t4)), (5, .int v5)] 1225 [] := by
  intro t1 t2 t3 t4 v5 Y σ cl sl hw hx h1 h2 h3 h4 hcl hsl
  unfold wL_law_1225 at hw
  refine z_aload_n hG dL_law_1225 rfl 1 rfl ?_
  refine z_calli hG (z_runV (As := []) (st := []) hG k_L_217 (MX11_isWaiting l h1 hw) ⟨(Nat.le_of_ble_eq_true rfl), (Nat.le_of_ble_eq_true rfl)⟩ h1 (T := TX11) (N := 9) rfl (by decide) rfl (Nat.le_of_ble_eq_true rfl) dL_law_1226 ⟨show cl + 0 + 0 ≤ 601024 from by omega, show sl + 0 + 0 ≤ 7293034 from by omega⟩ rfl) (fun r2 σ1 hw => ?_)
  refine z_aload_n hG dL_law_1229 rfl 2 rfl ?_
  refine z_calli hG (z_runV (As := []) (st := [.int r2]) hG k_L_221 (MX12_isWaiting l h2 hw) ⟨(Nat.le_of_ble_eq_true rfl), (Nat.le_of_ble_eq_true rfl)⟩ h2 (T := TX12) (N := 23) rfl (by decide) rfl (Nat.le_of_ble_eq_true rfl) dL_law_1230 ⟨show cl + 0 + 0 ≤ 601024 from by omega, show sl + 0 + 0 ≤ 7293034 from by omega⟩ rfl) (fun r4 σ3 hw => ?_)
  refine z_icmp_eq (tgt := 2768) hG dL_law_1233 (by decide) (fun c5 => ?_) (fun c5 => ?_)
  · have hw := hw.1 c5
    refine zpick [0, 1, 2, 3, 4, 5] (lv' := [(0, .ref b), (1, .ref (za Y t1)), (2, .ref (za Y t2)), (3, .ref (za Y t3)), (4, .ref (za Y t4)), (5, .int v5)]) rfl ?_
    exact BL_law_2768 hlt hG hsc hkb28 t1 t2 t3 t4 v5 Y σ3 _ _ hw hx h1 h2 h3 h4 (by omega) (by omega)
  · have hw := hw.2 c5
    refine z_iconst (v := 0) hG dL_law_1236 (by decide) ?_
    exact hw.elim
set_option maxRecDepth 100000 in
set_option maxHeartbeats 4000000 in
theorem BL_law_1238 {l : Launch} (hlt : l.stackTraces = false) {E : zE} {Y0 : zY} {p : Program} {e : Env} {s : State} {m : MethodId} {b L : Nat} {xs : Nat → Int32} {below : List Frame} {meth : Method} {c : Code} (hG : zG E p l s m #[Value.ref b] meth c cL_law 9 RL (some .boolean) (zA Y0 s.heap.size)) (hsc : zLaw b L xs s Y0) {nf : Nat} {kb28 : Nat → Nat → Nat → Nat → Int32 → zSp → zS → Prop} (hkb28 : ∀ (t1 : Nat) (t2 : Nat) (t3 : Nat) (t4 : Nat) (v5 : Int32) (Y : zY) (σ : zS) (cl sl : Nat), kb28 t1 t2 t3 t4 v5 (zsp Y) σ → zext Y0 Y → zT Y 11 t1 → zT Y 12 t2 → zT Y 24 t3 → zT Y 25 t4 → cl + (nf * 50 + 0) ≤ 601024 → sl + (nf * 7356 + 0) ≤ 7293034 → WW E Y σ p l e room_1 s m #[Value.ref b] below meth c (zA Y0 s.heap.size) 9 cl sl (lw_Z below #[Value.ref b] s) [(0, .ref b), (1, .ref (za Y t1)), (2, .ref (za Y t2)), (3, .ref (za Y t3)), (4, .ref (za Y t4)), (5, .int v5)] 28 []) : ∀ (t1 : Nat) (t2 : Nat) (t3 : Nat) (t4 : Nat) (v5 : Int32) (Y : zY) (σ : zS) (cl sl : Nat), wL_law_1238 L xs kb28 t1 t2 t3 t4 v5 (zsp Y) σ → zext Y0 Y → zT Y 11 t1 → zT Y 12 t2 → zT Y 24 t3 → zT Y 25 t4 → cl + (0 + (nf * 50 + 0)) ≤ 601024 → sl + (0 + (nf * 7356 + 0)) ≤ 7293034 → WW E Y σ p l e room_1 s m #[Value.ref b] below meth c (zA Y0 s.heap.size) 9 cl sl (lw_Z below #[Value.ref b] s) [(0, .ref b), (1, .ref (za Y t1)), (2, .ref (za Y t2)), (3, .ref (za Y t3)), (4, .ref (za Y t4)), (5, .int v5)] 1238 [] := by
  intro t1 t2 t3 t4 v5 Y σ cl sl hw hx h1 h2 h3 h4 hcl hsl
  unfold wL_law_1238 at hw
  refine z_aload_n hG dL_law_1238 rfl 1 rfl ?_
  refine z_calli hG (z_runV (As := []) (st := []) hG k_L_222 (MX11_sentOfLine l h1 hw) ⟨(Nat.le_of_ble_eq_true rfl), (Nat.le_of_ble_eq_true rfl)⟩ h1 (T := TX11) (N := 9) rfl (by decide) rfl (Nat.le_of_ble_eq_true rfl) dL_law_1239 ⟨show cl + 0 + 0 ≤ 601024 from by omega, show sl + 0 + 0 ≤ 7293034 from by omega⟩ rfl) (fun r2 σ1 hw => ?_)
  refine z_aload_n hG dL_law_1242 rfl 2 rfl ?_
  refine z_calli hG (z_runV (As := []) (st := [.int r2]) hG k_L_225 (MX12_sentOfLine l h2 hw) ⟨(Nat.le_of_ble_eq_true rfl), (Nat.le_of_ble_eq_true rfl)⟩ h2 (T := TX12) (N := 23) rfl (by decide) rfl (Nat.le_of_ble_eq_true rfl) dL_law_1243 ⟨show cl + 0 + 0 ≤ 601024 from by omega, show sl + 0 + 0 ≤ 7293034 from by omega⟩ rfl) (fun r4 σ3 hw => ?_)
  refine z_icmp_eq (tgt := 2768) hG dL_law_1246 (by decide) (fun c5 => ?_) (fun c5 => ?_)
  · have hw := hw.1 c5
    refine zpick [0, 1, 2, 3, 4, 5] (lv' := [(0, .ref b), (1, .ref (za Y t1)), (2, .ref (za Y t2)), (3, .ref (za Y t3)), (4, .ref (za Y t4)), (5, .int v5)]) rfl ?_
    exact BL_law_2768 hlt hG hsc hkb28 t1 t2 t3 t4 v5 Y σ3 _ _ hw hx h1 h2 h3 h4 (by omega) (by omega)
  · have hw := hw.2 c5
    refine z_iconst (v := 0) hG dL_law_1249 (by decide) ?_
    exact hw.elim
set_option maxRecDepth 100000 in
set_option maxHeartbeats 4000000 in
theorem BL_law_1251 {l : Launch} (hlt : l.stackTraces = false) {E : zE} {Y0 : zY} {p : Program} {e : Env} {s : State} {m : MethodId} {b L : Nat} {xs : Nat → Int32} {below : List Frame} {meth : Method} {c : Code} (hG : zG E p l s m #[Value.ref b] meth c cL_law 9 RL (some .boolean) (zA Y0 s.heap.size)) (hsc : zLaw b L xs s Y0) {nf : Nat} {kb28 : Nat → Nat → Nat → Nat → Int32 → zSp → zS → Prop} (hkb28 : ∀ (t1 : Nat) (t2 : Nat) (t3 : Nat) (t4 : Nat) (v5 : Int32) (Y : zY) (σ : zS) (cl sl : Nat), kb28 t1 t2 t3 t4 v5 (zsp Y) σ → zext Y0 Y → zT Y 11 t1 → zT Y 12 t2 → zT Y 24 t3 → zT Y 25 t4 → cl + (nf * 50 + 0) ≤ 601024 → sl + (nf * 7356 + 0) ≤ 7293034 → WW E Y σ p l e room_1 s m #[Value.ref b] below meth c (zA Y0 s.heap.size) 9 cl sl (lw_Z below #[Value.ref b] s) [(0, .ref b), (1, .ref (za Y t1)), (2, .ref (za Y t2)), (3, .ref (za Y t3)), (4, .ref (za Y t4)), (5, .int v5)] 28 []) : ∀ (t1 : Nat) (t2 : Nat) (t3 : Nat) (t4 : Nat) (v5 : Int32) (Y : zY) (σ : zS) (cl sl : Nat), wL_law_1251 L xs kb28 t1 t2 t3 t4 v5 (zsp Y) σ → zext Y0 Y → zT Y 11 t1 → zT Y 12 t2 → zT Y 24 t3 → zT Y 25 t4 → cl + (0 + (nf * 50 + 0)) ≤ 601024 → sl + (0 + (nf * 7356 + 0)) ≤ 7293034 → WW E Y σ p l e room_1 s m #[Value.ref b] below meth c (zA Y0 s.heap.size) 9 cl sl (lw_Z below #[Value.ref b] s) [(0, .ref b), (1, .ref (za Y t1)), (2, .ref (za Y t2)), (3, .ref (za Y t3)), (4, .ref (za Y t4)), (5, .int v5)] 1251 [] := by
  intro t1 t2 t3 t4 v5 Y σ cl sl hw hx h1 h2 h3 h4 hcl hsl
  unfold wL_law_1251 at hw
  refine z_aload_n hG dL_law_1251 rfl 1 rfl ?_
  refine z_calli hG (z_runV (As := []) (st := []) hG k_L_226 (MX11_repetition l h1 hw) ⟨(Nat.le_of_ble_eq_true rfl), (Nat.le_of_ble_eq_true rfl)⟩ h1 (T := TX11) (N := 9) rfl (by decide) rfl (Nat.le_of_ble_eq_true rfl) dL_law_1252 ⟨show cl + 0 + 0 ≤ 601024 from by omega, show sl + 0 + 0 ≤ 7293034 from by omega⟩ rfl) (fun r2 σ1 hw => ?_)
  refine z_aload_n hG dL_law_1255 rfl 2 rfl ?_
  refine z_calli hG (z_runV (As := []) (st := [.int r2]) hG k_L_229 (MX12_repetition l h2 hw) ⟨(Nat.le_of_ble_eq_true rfl), (Nat.le_of_ble_eq_true rfl)⟩ h2 (T := TX12) (N := 23) rfl (by decide) rfl (Nat.le_of_ble_eq_true rfl) dL_law_1256 ⟨show cl + 0 + 0 ≤ 601024 from by omega, show sl + 0 + 0 ≤ 7293034 from by omega⟩ rfl) (fun r4 σ3 hw => ?_)
  refine z_icmp_eq (tgt := 2768) hG dL_law_1259 (by decide) (fun c5 => ?_) (fun c5 => ?_)
  · have hw := hw.1 c5
    refine zpick [0, 1, 2, 3, 4, 5] (lv' := [(0, .ref b), (1, .ref (za Y t1)), (2, .ref (za Y t2)), (3, .ref (za Y t3)), (4, .ref (za Y t4)), (5, .int v5)]) rfl ?_
    exact BL_law_2768 hlt hG hsc hkb28 t1 t2 t3 t4 v5 Y σ3 _ _ hw hx h1 h2 h3 h4 (by omega) (by omega)
  · have hw := hw.2 c5
    refine z_iconst (v := 0) hG dL_law_1262 (by decide) ?_
    exact hw.elim
set_option maxRecDepth 100000 in
set_option maxHeartbeats 4000000 in
theorem BL_law_1264 {l : Launch} (hlt : l.stackTraces = false) {E : zE} {Y0 : zY} {p : Program} {e : Env} {s : State} {m : MethodId} {b L : Nat} {xs : Nat → Int32} {below : List Frame} {meth : Method} {c : Code} (hG : zG E p l s m #[Value.ref b] meth c cL_law 9 RL (some .boolean) (zA Y0 s.heap.size)) (hsc : zLaw b L xs s Y0) {nf : Nat} {kb28 : Nat → Nat → Nat → Nat → Int32 → zSp → zS → Prop} (hkb28 : ∀ (t1 : Nat) (t2 : Nat) (t3 : Nat) (t4 : Nat) (v5 : Int32) (Y : zY) (σ : zS) (cl sl : Nat), kb28 t1 t2 t3 t4 v5 (zsp Y) σ → zext Y0 Y → zT Y 11 t1 → zT Y 12 t2 → zT Y 24 t3 → zT Y 25 t4 → cl + (nf * 50 + 0) ≤ 601024 → sl + (nf * 7356 + 0) ≤ 7293034 → WW E Y σ p l e room_1 s m #[Value.ref b] below meth c (zA Y0 s.heap.size) 9 cl sl (lw_Z below #[Value.ref b] s) [(0, .ref b), (1, .ref (za Y t1)), (2, .ref (za Y t2)), (3, .ref (za Y t3)), (4, .ref (za Y t4)), (5, .int v5)] 28 []) : ∀ (t1 : Nat) (t2 : Nat) (t3 : Nat) (t4 : Nat) (v5 : Int32) (Y : zY) (σ : zS) (cl sl : Nat), wL_law_1264 L xs kb28 t1 t2 t3 t4 v5 (zsp Y) σ → zext Y0 Y → zT Y 11 t1 → zT Y 12 t2 → zT Y 24 t3 → zT Y 25 t4 → cl + (0 + (nf * 50 + 0)) ≤ 601024 → sl + (0 + (nf * 7356 + 0)) ≤ 7293034 → WW E Y σ p l e room_1 s m #[Value.ref b] below meth c (zA Y0 s.heap.size) 9 cl sl (lw_Z below #[Value.ref b] s) [(0, .ref b), (1, .ref (za Y t1)), (2, .ref (za Y t2)), (3, .ref (za Y t3)), (4, .ref (za Y t4)), (5, .int v5)] 1264 [] := by
  intro t1 t2 t3 t4 v5 Y σ cl sl hw hx h1 h2 h3 h4 hcl hsl
  unfold wL_law_1264 at hw
  refine z_aload_n hG dL_law_1264 rfl 1 rfl ?_
  refine z_calli hG (z_runV (As := []) (st := []) hG k_L_230 (MX11_underWay l h1 hw) ⟨(Nat.le_of_ble_eq_true rfl), (Nat.le_of_ble_eq_true rfl)⟩ h1 (T := TX11) (N := 9) rfl (by decide) rfl (Nat.le_of_ble_eq_true rfl) dL_law_1265 ⟨show cl + 0 + 0 ≤ 601024 from by omega, show sl + 0 + 0 ≤ 7293034 from by omega⟩ rfl) (fun r2 σ1 hw => ?_)
  refine z_aload_n hG dL_law_1268 rfl 2 rfl ?_
  refine z_calli hG (z_runV (As := []) (st := [.int r2]) hG k_L_233 (MX12_underWay l h2 hw) ⟨(Nat.le_of_ble_eq_true rfl), (Nat.le_of_ble_eq_true rfl)⟩ h2 (T := TX12) (N := 23) rfl (by decide) rfl (Nat.le_of_ble_eq_true rfl) dL_law_1269 ⟨show cl + 0 + 0 ≤ 601024 from by omega, show sl + 0 + 0 ≤ 7293034 from by omega⟩ rfl) (fun r4 σ3 hw => ?_)
  refine z_icmp_eq (tgt := 2768) hG dL_law_1272 (by decide) (fun c5 => ?_) (fun c5 => ?_)
  · have hw := hw.1 c5
    refine zpick [0, 1, 2, 3, 4, 5] (lv' := [(0, .ref b), (1, .ref (za Y t1)), (2, .ref (za Y t2)), (3, .ref (za Y t3)), (4, .ref (za Y t4)), (5, .int v5)]) rfl ?_
    exact BL_law_2768 hlt hG hsc hkb28 t1 t2 t3 t4 v5 Y σ3 _ _ hw hx h1 h2 h3 h4 (by omega) (by omega)
  · have hw := hw.2 c5
    refine z_iconst (v := 0) hG dL_law_1275 (by decide) ?_
    exact hw.elim
set_option maxRecDepth 100000 in
set_option maxHeartbeats 4000000 in
theorem BL_law_1277 {l : Launch} (hlt : l.stackTraces = false) {E : zE} {Y0 : zY} {p : Program} {e : Env} {s : State} {m : MethodId} {b L : Nat} {xs : Nat → Int32} {below : List Frame} {meth : Method} {c : Code} (hG : zG E p l s m #[Value.ref b] meth c cL_law 9 RL (some .boolean) (zA Y0 s.heap.size)) (hsc : zLaw b L xs s Y0) {nf : Nat} {kb28 : Nat → Nat → Nat → Nat → Int32 → zSp → zS → Prop} (hkb28 : ∀ (t1 : Nat) (t2 : Nat) (t3 : Nat) (t4 : Nat) (v5 : Int32) (Y : zY) (σ : zS) (cl sl : Nat), kb28 t1 t2 t3 t4 v5 (zsp Y) σ → zext Y0 Y → zT Y 11 t1 → zT Y 12 t2 → zT Y 24 t3 → zT Y 25 t4 → cl + (nf * 50 + 0) ≤ 601024 → sl + (nf * 7356 + 0) ≤ 7293034 → WW E Y σ p l e room_1 s m #[Value.ref b] below meth c (zA Y0 s.heap.size) 9 cl sl (lw_Z below #[Value.ref b] s) [(0, .ref b), (1, .ref (za Y t1)), (2, .ref (za Y t2)), (3, .ref (za Y t3)), (4, .ref (za Y t4)), (5, .int v5)] 28 []) : ∀ (t1 : Nat) (t2 : Nat) (t3 : Nat) (t4 : Nat) (v5 : Int32) (Y : zY) (σ : zS) (cl sl : Nat), wL_law_1277 L xs kb28 t1 t2 t3 t4 v5 (zsp Y) σ → zext Y0 Y → zT Y 11 t1 → zT Y 12 t2 → zT Y 24 t3 → zT Y 25 t4 → cl + (0 + (nf * 50 + 0)) ≤ 601024 → sl + (0 + (nf * 7356 + 0)) ≤ 7293034 → WW E Y σ p l e room_1 s m #[Value.ref b] below meth c (zA Y0 s.heap.size) 9 cl sl (lw_Z below #[Value.ref b] s) [(0, .ref b), (1, .ref (za Y t1)), (2, .ref (za Y t2)), (3, .ref (za Y t3)), (4, .ref (za Y t4)), (5, .int v5)] 1277 [] := by
  intro t1 t2 t3 t4 v5 Y σ cl sl hw hx h1 h2 h3 h4 hcl hsl
  unfold wL_law_1277 at hw
  refine z_aload_n hG dL_law_1277 rfl 1 rfl ?_
  refine z_calli hG (z_runV (As := []) (st := []) hG k_L_234 (MX11_nextPulseIn l h1 hw) ⟨(Nat.le_of_ble_eq_true rfl), (Nat.le_of_ble_eq_true rfl)⟩ h1 (T := TX11) (N := 9) rfl (by decide) rfl (Nat.le_of_ble_eq_true rfl) dL_law_1278 ⟨show cl + 0 + 0 ≤ 601024 from by omega, show sl + 0 + 0 ≤ 7293034 from by omega⟩ rfl) (fun r2 σ1 hw => ?_)
  refine z_aload_n hG dL_law_1281 rfl 2 rfl ?_
  refine z_calli hG (z_runV (As := []) (st := [.int r2]) hG k_L_237 (MX12_nextPulseIn l h2 hw) ⟨(Nat.le_of_ble_eq_true rfl), (Nat.le_of_ble_eq_true rfl)⟩ h2 (T := TX12) (N := 23) rfl (by decide) rfl (Nat.le_of_ble_eq_true rfl) dL_law_1282 ⟨show cl + 0 + 0 ≤ 601024 from by omega, show sl + 0 + 0 ≤ 7293034 from by omega⟩ rfl) (fun r4 σ3 hw => ?_)
  refine z_icmp_eq (tgt := 2768) hG dL_law_1285 (by decide) (fun c5 => ?_) (fun c5 => ?_)
  · have hw := hw.1 c5
    refine zpick [0, 1, 2, 3, 4, 5] (lv' := [(0, .ref b), (1, .ref (za Y t1)), (2, .ref (za Y t2)), (3, .ref (za Y t3)), (4, .ref (za Y t4)), (5, .int v5)]) rfl ?_
    exact BL_law_2768 hlt hG hsc hkb28 t1 t2 t3 t4 v5 Y σ3 _ _ hw hx h1 h2 h3 h4 (by omega) (by omega)
  · have hw := hw.2 c5
    refine z_iconst (v := 0) hG dL_law_1288 (by decide) ?_
    exact hw.elim
set_option maxRecDepth 100000 in
set_option maxHeartbeats 4000000 in
theorem BL_law_1290 {l : Launch} (hlt : l.stackTraces = false) {E : zE} {Y0 : zY} {p : Program} {e : Env} {s : State} {m : MethodId} {b L : Nat} {xs : Nat → Int32} {below : List Frame} {meth : Method} {c : Code} (hG : zG E p l s m #[Value.ref b] meth c cL_law 9 RL (some .boolean) (zA Y0 s.heap.size)) (hsc : zLaw b L xs s Y0) {nf : Nat} {kb28 : Nat → Nat → Nat → Nat → Int32 → zSp → zS → Prop} (hkb28 : ∀ (t1 : Nat) (t2 : Nat) (t3 : Nat) (t4 : Nat) (v5 : Int32) (Y : zY) (σ : zS) (cl sl : Nat), kb28 t1 t2 t3 t4 v5 (zsp Y) σ → zext Y0 Y → zT Y 11 t1 → zT Y 12 t2 → zT Y 24 t3 → zT Y 25 t4 → cl + (nf * 50 + 0) ≤ 601024 → sl + (nf * 7356 + 0) ≤ 7293034 → WW E Y σ p l e room_1 s m #[Value.ref b] below meth c (zA Y0 s.heap.size) 9 cl sl (lw_Z below #[Value.ref b] s) [(0, .ref b), (1, .ref (za Y t1)), (2, .ref (za Y t2)), (3, .ref (za Y t3)), (4, .ref (za Y t4)), (5, .int v5)] 28 []) : ∀ (t1 : Nat) (t2 : Nat) (t3 : Nat) (t4 : Nat) (v5 : Int32) (Y : zY) (σ : zS) (cl sl : Nat), wL_law_1290 L xs kb28 t1 t2 t3 t4 v5 (zsp Y) σ → zext Y0 Y → zT Y 11 t1 → zT Y 12 t2 → zT Y 24 t3 → zT Y 25 t4 → cl + (0 + (nf * 50 + 0)) ≤ 601024 → sl + (0 + (nf * 7356 + 0)) ≤ 7293034 → WW E Y σ p l e room_1 s m #[Value.ref b] below meth c (zA Y0 s.heap.size) 9 cl sl (lw_Z below #[Value.ref b] s) [(0, .ref b), (1, .ref (za Y t1)), (2, .ref (za Y t2)), (3, .ref (za Y t3)), (4, .ref (za Y t4)), (5, .int v5)] 1290 [] := by
  intro t1 t2 t3 t4 v5 Y σ cl sl hw hx h1 h2 h3 h4 hcl hsl
  unfold wL_law_1290 at hw
  refine z_aload_n hG dL_law_1290 rfl 1 rfl ?_
  refine z_calli hG (z_runV (As := []) (st := []) hG k_L_238 (MX11_silence l h1 hw) ⟨(Nat.le_of_ble_eq_true rfl), (Nat.le_of_ble_eq_true rfl)⟩ h1 (T := TX11) (N := 9) rfl (by decide) rfl (Nat.le_of_ble_eq_true rfl) dL_law_1291 ⟨show cl + 0 + 0 ≤ 601024 from by omega, show sl + 0 + 0 ≤ 7293034 from by omega⟩ rfl) (fun r2 σ1 hw => ?_)
  refine z_aload_n hG dL_law_1294 rfl 2 rfl ?_
  refine z_calli hG (z_runV (As := []) (st := [.int r2]) hG k_L_241 (MX12_silence l h2 hw) ⟨(Nat.le_of_ble_eq_true rfl), (Nat.le_of_ble_eq_true rfl)⟩ h2 (T := TX12) (N := 23) rfl (by decide) rfl (Nat.le_of_ble_eq_true rfl) dL_law_1295 ⟨show cl + 0 + 0 ≤ 601024 from by omega, show sl + 0 + 0 ≤ 7293034 from by omega⟩ rfl) (fun r4 σ3 hw => ?_)
  refine z_icmp_eq (tgt := 2768) hG dL_law_1298 (by decide) (fun c5 => ?_) (fun c5 => ?_)
  · have hw := hw.1 c5
    refine zpick [0, 1, 2, 3, 4, 5] (lv' := [(0, .ref b), (1, .ref (za Y t1)), (2, .ref (za Y t2)), (3, .ref (za Y t3)), (4, .ref (za Y t4)), (5, .int v5)]) rfl ?_
    exact BL_law_2768 hlt hG hsc hkb28 t1 t2 t3 t4 v5 Y σ3 _ _ hw hx h1 h2 h3 h4 (by omega) (by omega)
  · have hw := hw.2 c5
    refine z_iconst (v := 0) hG dL_law_1301 (by decide) ?_
    exact hw.elim
set_option maxRecDepth 100000 in
set_option maxHeartbeats 4000000 in
theorem BL_law_1303 {l : Launch} (hlt : l.stackTraces = false) {E : zE} {Y0 : zY} {p : Program} {e : Env} {s : State} {m : MethodId} {b L : Nat} {xs : Nat → Int32} {below : List Frame} {meth : Method} {c : Code} (hG : zG E p l s m #[Value.ref b] meth c cL_law 9 RL (some .boolean) (zA Y0 s.heap.size)) (hsc : zLaw b L xs s Y0) {nf : Nat} {kb28 : Nat → Nat → Nat → Nat → Int32 → zSp → zS → Prop} (hkb28 : ∀ (t1 : Nat) (t2 : Nat) (t3 : Nat) (t4 : Nat) (v5 : Int32) (Y : zY) (σ : zS) (cl sl : Nat), kb28 t1 t2 t3 t4 v5 (zsp Y) σ → zext Y0 Y → zT Y 11 t1 → zT Y 12 t2 → zT Y 24 t3 → zT Y 25 t4 → cl + (nf * 50 + 0) ≤ 601024 → sl + (nf * 7356 + 0) ≤ 7293034 → WW E Y σ p l e room_1 s m #[Value.ref b] below meth c (zA Y0 s.heap.size) 9 cl sl (lw_Z below #[Value.ref b] s) [(0, .ref b), (1, .ref (za Y t1)), (2, .ref (za Y t2)), (3, .ref (za Y t3)), (4, .ref (za Y t4)), (5, .int v5)] 28 []) : ∀ (t1 : Nat) (t2 : Nat) (t3 : Nat) (t4 : Nat) (v5 : Int32) (Y : zY) (σ : zS) (cl sl : Nat), wL_law_1303 L xs kb28 t1 t2 t3 t4 v5 (zsp Y) σ → zext Y0 Y → zT Y 11 t1 → zT Y 12 t2 → zT Y 24 t3 → zT Y 25 t4 → cl + (0 + (nf * 50 + 0)) ≤ 601024 → sl + (0 + (nf * 7356 + 0)) ≤ 7293034 → WW E Y σ p l e room_1 s m #[Value.ref b] below meth c (zA Y0 s.heap.size) 9 cl sl (lw_Z below #[Value.ref b] s) [(0, .ref b), (1, .ref (za Y t1)), (2, .ref (za Y t2)), (3, .ref (za Y t3)), (4, .ref (za Y t4)), (5, .int v5)] 1303 [] := by
  intro t1 t2 t3 t4 v5 Y σ cl sl hw hx h1 h2 h3 h4 hcl hsl
  unfold wL_law_1303 at hw
  refine z_aload_n hG dL_law_1303 rfl 1 rfl ?_
  refine z_calli hG (z_runV (As := []) (st := []) hG k_L_242 (MX11_bufferLength l h1 hw) ⟨(Nat.le_of_ble_eq_true rfl), (Nat.le_of_ble_eq_true rfl)⟩ h1 (T := TX11) (N := 9) rfl (by decide) rfl (Nat.le_of_ble_eq_true rfl) dL_law_1304 ⟨show cl + 0 + 0 ≤ 601024 from by omega, show sl + 0 + 0 ≤ 7293034 from by omega⟩ rfl) (fun r2 σ1 hw => ?_)
  refine z_aload_n hG dL_law_1307 rfl 2 rfl ?_
  refine z_calli hG (z_runV (As := []) (st := [.int r2]) hG k_L_245 (MX12_bufferLength l h2 hw) ⟨(Nat.le_of_ble_eq_true rfl), (Nat.le_of_ble_eq_true rfl)⟩ h2 (T := TX12) (N := 23) rfl (by decide) rfl (Nat.le_of_ble_eq_true rfl) dL_law_1308 ⟨show cl + 0 + 0 ≤ 601024 from by omega, show sl + 0 + 0 ≤ 7293034 from by omega⟩ rfl) (fun r4 σ3 hw => ?_)
  refine z_icmp_eq (tgt := 2768) hG dL_law_1311 (by decide) (fun c5 => ?_) (fun c5 => ?_)
  · have hw := hw.1 c5
    refine zpick [0, 1, 2, 3, 4, 5] (lv' := [(0, .ref b), (1, .ref (za Y t1)), (2, .ref (za Y t2)), (3, .ref (za Y t3)), (4, .ref (za Y t4)), (5, .int v5)]) rfl ?_
    exact BL_law_2768 hlt hG hsc hkb28 t1 t2 t3 t4 v5 Y σ3 _ _ hw hx h1 h2 h3 h4 (by omega) (by omega)
  · have hw := hw.2 c5
    refine z_iconst (v := 0) hG dL_law_1314 (by decide) ?_
    exact hw.elim
set_option maxRecDepth 100000 in
set_option maxHeartbeats 4000000 in
theorem BL_law_1316 {l : Launch} (hlt : l.stackTraces = false) {E : zE} {Y0 : zY} {p : Program} {e : Env} {s : State} {m : MethodId} {b L : Nat} {xs : Nat → Int32} {below : List Frame} {meth : Method} {c : Code} (hG : zG E p l s m #[Value.ref b] meth c cL_law 9 RL (some .boolean) (zA Y0 s.heap.size)) (hsc : zLaw b L xs s Y0) {nf : Nat} {kb28 : Nat → Nat → Nat → Nat → Int32 → zSp → zS → Prop} (hkb28 : ∀ (t1 : Nat) (t2 : Nat) (t3 : Nat) (t4 : Nat) (v5 : Int32) (Y : zY) (σ : zS) (cl sl : Nat), kb28 t1 t2 t3 t4 v5 (zsp Y) σ → zext Y0 Y → zT Y 11 t1 → zT Y 12 t2 → zT Y 24 t3 → zT Y 25 t4 → cl + (nf * 50 + 0) ≤ 601024 → sl + (nf * 7356 + 0) ≤ 7293034 → WW E Y σ p l e room_1 s m #[Value.ref b] below meth c (zA Y0 s.heap.size) 9 cl sl (lw_Z below #[Value.ref b] s) [(0, .ref b), (1, .ref (za Y t1)), (2, .ref (za Y t2)), (3, .ref (za Y t3)), (4, .ref (za Y t4)), (5, .int v5)] 28 []) : ∀ (t1 : Nat) (t2 : Nat) (t3 : Nat) (t4 : Nat) (v5 : Int32) (Y : zY) (σ : zS) (cl sl : Nat), wL_law_1316 L xs kb28 t1 t2 t3 t4 v5 (zsp Y) σ → zext Y0 Y → zT Y 11 t1 → zT Y 12 t2 → zT Y 24 t3 → zT Y 25 t4 → cl + (1 + (nf * 50 + 0)) ≤ 601024 → sl + (6 + (nf * 7356 + 0)) ≤ 7293034 → WW E Y σ p l e room_1 s m #[Value.ref b] below meth c (zA Y0 s.heap.size) 9 cl sl (lw_Z below #[Value.ref b] s) [(0, .ref b), (1, .ref (za Y t1)), (2, .ref (za Y t2)), (3, .ref (za Y t3)), (4, .ref (za Y t4)), (5, .int v5)] 1316 [] := by
  intro t1 t2 t3 t4 v5 Y σ cl sl hw hx h1 h2 h3 h4 hcl hsl
  unfold wL_law_1316 at hw
  refine z_aload_n hG dL_law_1316 rfl 1 rfl ?_
  refine z_aload_n hG dL_law_1317 rfl 0 rfl ?_
  refine z_iload hG dL_law_1318 5 rfl ?_
  refine z_iconst (v := 1) hG dL_law_1320 (by decide) ?_
  refine z_iadd hG dL_law_1321 ?_
  refine z_topi (fun x1 ex1 => ?_)
  have hw := hw x1 ex1
  obtain ⟨q2, hw⟩ := hw
  refine z_lawld hG hsc q2 dL_law_1322 ?_
  refine z_aload_n hG dL_law_1323 rfl 3 rfl ?_
  obtain ⟨x3, ex3⟩ : ∃ y : Int32, y = xs x1.toNatClampNeg := ⟨_, rfl⟩
  refine zst (st' := [.ref (za Y t3), .int x3, .ref (za Y t1)]) (by rw [ex3] <;> rfl) ?_
  have hw := hw x3 ex3
  refine z_callCi hG (z_runSH (As := [.ref (za Y t1), .int x3, .ref (za Y t3)]) (st := []) hG k_L_246 (ML_bufferCharacter l hlt h1 h3 hw) ⟨(Nat.le_of_ble_eq_true rfl), (Nat.le_of_ble_eq_true rfl)⟩ rfl (Nat.le_of_ble_eq_true rfl) dL_law_1324 ⟨show cl + 0 + 1 ≤ 601024 from by omega, show sl + 0 + 6 ≤ 7293034 from by omega⟩ rfl) (fun r5 σ4 hw => ?_)
  refine zwiden (k := cl + 1) (n := sl + 6) (show cl + 0 + 1 ≤ cl + 1 from by omega) (show sl + 0 + 6 ≤ sl + 6 from by omega) ?_
  refine z_istore (lv' := [(6, .int r5), (0, .ref b), (1, .ref (za Y t1)), (2, .ref (za Y t2)), (3, .ref (za Y t3)), (4, .ref (za Y t4)), (5, .int v5)]) hG dL_law_1327 (by decide) rfl ?_
  refine z_aload_n hG dL_law_1329 rfl 3 rfl ?_
  refine z_aload_n hG dL_law_1330 rfl 1 rfl ?_
  refine z_iload hG dL_law_1331 6 rfl ?_
  refine z_iconst (v := 1) hG dL_law_1333 (by decide) ?_
  refine z_iadd hG dL_law_1334 ?_
  refine z_topi (fun x6 ex6 => ?_)
  have hw := hw x6 ex6
  obtain ⟨q7, hw⟩ := hw
  refine z_lawld hG hsc q7 dL_law_1335 ?_
  refine z_topi (fun x8 ex8 => ?_)
  have hw := hw x8 ex8
  refine z_calli hG (z_runV (As := [.int x8]) (st := []) hG k_L_248 (MX12_bufferCharacter l h2 hw) ⟨(Nat.le_of_ble_eq_true rfl), (Nat.le_of_ble_eq_true rfl)⟩ h2 (T := TX12) (N := 23) rfl (by decide) rfl (Nat.le_of_ble_eq_true rfl) dL_law_1336 ⟨show cl + 1 + 0 ≤ 601024 from by omega, show sl + 6 + 0 ≤ 7293034 from by omega⟩ rfl) (fun r10 σ9 hw => ?_)
  refine z_istore (lv' := [(7, .int r10), (6, .int r5), (0, .ref b), (1, .ref (za Y t1)), (2, .ref (za Y t2)), (3, .ref (za Y t3)), (4, .ref (za Y t4)), (5, .int v5)]) hG dL_law_1339 (by decide) rfl ?_
  refine z_aload_n hG dL_law_1341 rfl 4 rfl ?_
  refine z_calli hG (z_runV (As := []) (st := []) hG k_L_149 (MX12_thrown l h2 hw) ⟨(Nat.le_of_ble_eq_true rfl), (Nat.le_of_ble_eq_true rfl)⟩ h2 (T := TX12) (N := 23) rfl (by decide) rfl (Nat.le_of_ble_eq_true rfl) dL_law_1342 ⟨show cl + 1 + 0 ≤ 601024 from by omega, show sl + 6 + 0 ≤ 7293034 from by omega⟩ rfl) (fun r12 σ11 hw => ?_)
  refine z_iload hG dL_law_1345 1 rfl ?_
  refine z_icmp_eq (tgt := 1352) hG dL_law_1347 (by decide) (fun c16 => ?_) (fun c16 => ?_)
  · have hw := hw.1 c16
    refine z_iload hG dL_law_1352 1 rfl ?_
    refine z_if_ne (tgt := 1369) hG dL_law_1354 (by decide) (fun c15 => ?_) (fun c15 => ?_)
    · have hw := hw.2 c15
      refine z_goto (tgt := 2768) hG dL_law_1369 (by decide) ?_
      refine zpick [2, 3, 4, 5, 6, 7] (lv' := [(0, .ref b), (1, .ref (za Y t1)), (2, .ref (za Y t2)), (3, .ref (za Y t3)), (4, .ref (za Y t4)), (5, .int v5)]) rfl ?_
      refine zwiden (k := cl + 1) (n := sl + 6) (by omega) (by omega) ?_
      exact BL_law_2768 hlt hG hsc hkb28 t1 t2 t3 t4 v5 Y σ11 _ _ hw hx h1 h2 h3 h4 (by omega) (by omega)
    · have hw := hw.1 c15
      refine z_aload_n hG dL_law_1357 rfl 5 rfl ?_
      refine z_iconst (v := 0) hG dL_law_1358 (by decide) ?_
      obtain ⟨q13, hw⟩ := hw
      refine z_lald hG h3 q13 dL_law_1359 ?_
      refine z_iload hG dL_law_1360 0 rfl ?_
      refine z_i2l hG dL_law_1362 ?_
      refine z_lcmp hG dL_law_1363 ?_
      refine z_if_eq (tgt := 1369) hG dL_law_1364 (by decide) (fun c14 => ?_) (fun c14 => ?_)
      · have hw := hw.1 c14
        refine z_goto (tgt := 2768) hG dL_law_1369 (by decide) ?_
        refine zpick [2, 3, 4, 5, 6, 7] (lv' := [(0, .ref b), (1, .ref (za Y t1)), (2, .ref (za Y t2)), (3, .ref (za Y t3)), (4, .ref (za Y t4)), (5, .int v5)]) rfl ?_
        refine zwiden (k := cl + 1) (n := sl + 6) (by omega) (by omega) ?_
        exact BL_law_2768 hlt hG hsc hkb28 t1 t2 t3 t4 v5 Y σ11 _ _ hw hx h1 h2 h3 h4 (by omega) (by omega)
      · have hw := hw.2 c14
        refine z_iconst (v := 0) hG dL_law_1367 (by decide) ?_
        exact hw.elim
  · have hw := hw.2 c16
    refine z_iconst (v := 0) hG dL_law_1350 (by decide) ?_
    exact hw.elim
set_option maxRecDepth 100000 in
set_option maxHeartbeats 4000000 in
theorem BL_law_1372 {l : Launch} (hlt : l.stackTraces = false) {E : zE} {Y0 : zY} {p : Program} {e : Env} {s : State} {m : MethodId} {b L : Nat} {xs : Nat → Int32} {below : List Frame} {meth : Method} {c : Code} (hG : zG E p l s m #[Value.ref b] meth c cL_law 9 RL (some .boolean) (zA Y0 s.heap.size)) (hsc : zLaw b L xs s Y0) {nf : Nat} {kb28 : Nat → Nat → Nat → Nat → Int32 → zSp → zS → Prop} (hkb28 : ∀ (t1 : Nat) (t2 : Nat) (t3 : Nat) (t4 : Nat) (v5 : Int32) (Y : zY) (σ : zS) (cl sl : Nat), kb28 t1 t2 t3 t4 v5 (zsp Y) σ → zext Y0 Y → zT Y 11 t1 → zT Y 12 t2 → zT Y 24 t3 → zT Y 25 t4 → cl + (nf * 50 + 0) ≤ 601024 → sl + (nf * 7356 + 0) ≤ 7293034 → WW E Y σ p l e room_1 s m #[Value.ref b] below meth c (zA Y0 s.heap.size) 9 cl sl (lw_Z below #[Value.ref b] s) [(0, .ref b), (1, .ref (za Y t1)), (2, .ref (za Y t2)), (3, .ref (za Y t3)), (4, .ref (za Y t4)), (5, .int v5)] 28 []) : ∀ (t1 : Nat) (t2 : Nat) (t3 : Nat) (t4 : Nat) (v5 : Int32) (Y : zY) (σ : zS) (cl sl : Nat), wL_law_1372 L xs kb28 t1 t2 t3 t4 v5 (zsp Y) σ → zext Y0 Y → zT Y 11 t1 → zT Y 12 t2 → zT Y 24 t3 → zT Y 25 t4 → cl + (1 + (nf * 50 + 0)) ≤ 601024 → sl + (6 + (nf * 7356 + 0)) ≤ 7293034 → WW E Y σ p l e room_1 s m #[Value.ref b] below meth c (zA Y0 s.heap.size) 9 cl sl (lw_Z below #[Value.ref b] s) [(0, .ref b), (1, .ref (za Y t1)), (2, .ref (za Y t2)), (3, .ref (za Y t3)), (4, .ref (za Y t4)), (5, .int v5)] 1372 [] := by
  intro t1 t2 t3 t4 v5 Y σ cl sl hw hx h1 h2 h3 h4 hcl hsl
  unfold wL_law_1372 at hw
  refine z_aload_n hG dL_law_1372 rfl 1 rfl ?_
  refine z_aload_n hG dL_law_1373 rfl 0 rfl ?_
  refine z_iload hG dL_law_1374 5 rfl ?_
  refine z_iconst (v := 1) hG dL_law_1376 (by decide) ?_
  refine z_iadd hG dL_law_1377 ?_
  refine z_topi (fun x1 ex1 => ?_)
  have hw := hw x1 ex1
  obtain ⟨q2, hw⟩ := hw
  refine z_lawld hG hsc q2 dL_law_1378 ?_
  refine z_aload_n hG dL_law_1379 rfl 3 rfl ?_
  obtain ⟨x3, ex3⟩ : ∃ y : Int32, y = xs x1.toNatClampNeg := ⟨_, rfl⟩
  refine zst (st' := [.ref (za Y t3), .int x3, .ref (za Y t1)]) (by rw [ex3] <;> rfl) ?_
  have hw := hw x3 ex3
  refine z_callCi hG (z_runSH (As := [.ref (za Y t1), .int x3, .ref (za Y t3)]) (st := []) hG k_L_249 (ML_receivedLength l hlt h1 h3 hw) ⟨(Nat.le_of_ble_eq_true rfl), (Nat.le_of_ble_eq_true rfl)⟩ rfl (Nat.le_of_ble_eq_true rfl) dL_law_1380 ⟨show cl + 0 + 1 ≤ 601024 from by omega, show sl + 0 + 6 ≤ 7293034 from by omega⟩ rfl) (fun r5 σ4 hw => ?_)
  refine zwiden (k := cl + 1) (n := sl + 6) (show cl + 0 + 1 ≤ cl + 1 from by omega) (show sl + 0 + 6 ≤ sl + 6 from by omega) ?_
  refine z_istore (lv' := [(6, .int r5), (0, .ref b), (1, .ref (za Y t1)), (2, .ref (za Y t2)), (3, .ref (za Y t3)), (4, .ref (za Y t4)), (5, .int v5)]) hG dL_law_1383 (by decide) rfl ?_
  refine z_aload_n hG dL_law_1385 rfl 3 rfl ?_
  refine z_aload_n hG dL_law_1386 rfl 1 rfl ?_
  refine z_iload hG dL_law_1387 6 rfl ?_
  refine z_iconst (v := 1) hG dL_law_1389 (by decide) ?_
  refine z_iadd hG dL_law_1390 ?_
  refine z_topi (fun x6 ex6 => ?_)
  have hw := hw x6 ex6
  obtain ⟨q7, hw⟩ := hw
  refine z_lawld hG hsc q7 dL_law_1391 ?_
  refine z_topi (fun x8 ex8 => ?_)
  have hw := hw x8 ex8
  refine z_calli hG (z_runV (As := [.int x8]) (st := []) hG k_L_251 (MX12_receivedLength l h2 hw) ⟨(Nat.le_of_ble_eq_true rfl), (Nat.le_of_ble_eq_true rfl)⟩ h2 (T := TX12) (N := 23) rfl (by decide) rfl (Nat.le_of_ble_eq_true rfl) dL_law_1392 ⟨show cl + 1 + 0 ≤ 601024 from by omega, show sl + 6 + 0 ≤ 7293034 from by omega⟩ rfl) (fun r10 σ9 hw => ?_)
  refine z_istore (lv' := [(7, .int r10), (6, .int r5), (0, .ref b), (1, .ref (za Y t1)), (2, .ref (za Y t2)), (3, .ref (za Y t3)), (4, .ref (za Y t4)), (5, .int v5)]) hG dL_law_1395 (by decide) rfl ?_
  refine z_aload_n hG dL_law_1397 rfl 4 rfl ?_
  refine z_calli hG (z_runV (As := []) (st := []) hG k_L_149 (MX12_thrown l h2 hw) ⟨(Nat.le_of_ble_eq_true rfl), (Nat.le_of_ble_eq_true rfl)⟩ h2 (T := TX12) (N := 23) rfl (by decide) rfl (Nat.le_of_ble_eq_true rfl) dL_law_1398 ⟨show cl + 1 + 0 ≤ 601024 from by omega, show sl + 6 + 0 ≤ 7293034 from by omega⟩ rfl) (fun r12 σ11 hw => ?_)
  refine z_iload hG dL_law_1401 1 rfl ?_
  refine z_icmp_eq (tgt := 1408) hG dL_law_1403 (by decide) (fun c16 => ?_) (fun c16 => ?_)
  · have hw := hw.1 c16
    refine z_iload hG dL_law_1408 1 rfl ?_
    refine z_if_ne (tgt := 1425) hG dL_law_1410 (by decide) (fun c15 => ?_) (fun c15 => ?_)
    · have hw := hw.2 c15
      refine z_goto (tgt := 2768) hG dL_law_1425 (by decide) ?_
      refine zpick [2, 3, 4, 5, 6, 7] (lv' := [(0, .ref b), (1, .ref (za Y t1)), (2, .ref (za Y t2)), (3, .ref (za Y t3)), (4, .ref (za Y t4)), (5, .int v5)]) rfl ?_
      refine zwiden (k := cl + 1) (n := sl + 6) (by omega) (by omega) ?_
      exact BL_law_2768 hlt hG hsc hkb28 t1 t2 t3 t4 v5 Y σ11 _ _ hw hx h1 h2 h3 h4 (by omega) (by omega)
    · have hw := hw.1 c15
      refine z_aload_n hG dL_law_1413 rfl 5 rfl ?_
      refine z_iconst (v := 0) hG dL_law_1414 (by decide) ?_
      obtain ⟨q13, hw⟩ := hw
      refine z_lald hG h3 q13 dL_law_1415 ?_
      refine z_iload hG dL_law_1416 0 rfl ?_
      refine z_i2l hG dL_law_1418 ?_
      refine z_lcmp hG dL_law_1419 ?_
      refine z_if_eq (tgt := 1425) hG dL_law_1420 (by decide) (fun c14 => ?_) (fun c14 => ?_)
      · have hw := hw.1 c14
        refine z_goto (tgt := 2768) hG dL_law_1425 (by decide) ?_
        refine zpick [2, 3, 4, 5, 6, 7] (lv' := [(0, .ref b), (1, .ref (za Y t1)), (2, .ref (za Y t2)), (3, .ref (za Y t3)), (4, .ref (za Y t4)), (5, .int v5)]) rfl ?_
        refine zwiden (k := cl + 1) (n := sl + 6) (by omega) (by omega) ?_
        exact BL_law_2768 hlt hG hsc hkb28 t1 t2 t3 t4 v5 Y σ11 _ _ hw hx h1 h2 h3 h4 (by omega) (by omega)
      · have hw := hw.2 c14
        refine z_iconst (v := 0) hG dL_law_1423 (by decide) ?_
        exact hw.elim
  · have hw := hw.2 c16
    refine z_iconst (v := 0) hG dL_law_1406 (by decide) ?_
    exact hw.elim
set_option maxRecDepth 100000 in
set_option maxHeartbeats 4000000 in
theorem BL_law_1428 {l : Launch} (hlt : l.stackTraces = false) {E : zE} {Y0 : zY} {p : Program} {e : Env} {s : State} {m : MethodId} {b L : Nat} {xs : Nat → Int32} {below : List Frame} {meth : Method} {c : Code} (hG : zG E p l s m #[Value.ref b] meth c cL_law 9 RL (some .boolean) (zA Y0 s.heap.size)) (hsc : zLaw b L xs s Y0) {nf : Nat} {kb28 : Nat → Nat → Nat → Nat → Int32 → zSp → zS → Prop} (hkb28 : ∀ (t1 : Nat) (t2 : Nat) (t3 : Nat) (t4 : Nat) (v5 : Int32) (Y : zY) (σ : zS) (cl sl : Nat), kb28 t1 t2 t3 t4 v5 (zsp Y) σ → zext Y0 Y → zT Y 11 t1 → zT Y 12 t2 → zT Y 24 t3 → zT Y 25 t4 → cl + (nf * 50 + 0) ≤ 601024 → sl + (nf * 7356 + 0) ≤ 7293034 → WW E Y σ p l e room_1 s m #[Value.ref b] below meth c (zA Y0 s.heap.size) 9 cl sl (lw_Z below #[Value.ref b] s) [(0, .ref b), (1, .ref (za Y t1)), (2, .ref (za Y t2)), (3, .ref (za Y t3)), (4, .ref (za Y t4)), (5, .int v5)] 28 []) : ∀ (t1 : Nat) (t2 : Nat) (t3 : Nat) (t4 : Nat) (v5 : Int32) (Y : zY) (σ : zS) (cl sl : Nat), wL_law_1428 L xs kb28 t1 t2 t3 t4 v5 (zsp Y) σ → zext Y0 Y → zT Y 11 t1 → zT Y 12 t2 → zT Y 24 t3 → zT Y 25 t4 → cl + (2 + (nf * 50 + 0)) ≤ 601024 → sl + (12 + (nf * 7356 + 0)) ≤ 7293034 → WW E Y σ p l e room_1 s m #[Value.ref b] below meth c (zA Y0 s.heap.size) 9 cl sl (lw_Z below #[Value.ref b] s) [(0, .ref b), (1, .ref (za Y t1)), (2, .ref (za Y t2)), (3, .ref (za Y t3)), (4, .ref (za Y t4)), (5, .int v5)] 1428 [] := by
  intro t1 t2 t3 t4 v5 Y σ cl sl hw hx h1 h2 h3 h4 hcl hsl
  unfold wL_law_1428 at hw
  refine z_aload_n hG dL_law_1428 rfl 1 rfl ?_
  refine z_aload_n hG dL_law_1429 rfl 0 rfl ?_
  refine z_iload hG dL_law_1430 5 rfl ?_
  refine z_iconst (v := 1) hG dL_law_1432 (by decide) ?_
  refine z_iadd hG dL_law_1433 ?_
  refine z_topi (fun x1 ex1 => ?_)
  have hw := hw x1 ex1
  obtain ⟨q2, hw⟩ := hw
  refine z_lawld hG hsc q2 dL_law_1434 ?_
  refine z_aload_n hG dL_law_1435 rfl 0 rfl ?_
  refine z_iload hG dL_law_1436 5 rfl ?_
  refine z_iconst (v := 2) hG dL_law_1438 (by decide) ?_
  refine z_iadd hG dL_law_1439 ?_
  refine z_topi (fun x3 ex3 => ?_)
  have hw := hw x3 ex3
  obtain ⟨q4, hw⟩ := hw
  refine z_lawld hG hsc q4 dL_law_1440 ?_
  refine z_aload_n hG dL_law_1441 rfl 3 rfl ?_
  obtain ⟨x5, ex5⟩ : ∃ y : Int32, y = xs x3.toNatClampNeg := ⟨_, rfl⟩
  refine zst (st' := [.ref (za Y t3), .int x5, .int (xs x1.toNatClampNeg), .ref (za Y t1)]) (by rw [ex5] <;> rfl) ?_
  have hw := hw x5 ex5
  obtain ⟨x6, ex6⟩ : ∃ y : Int32, y = xs x1.toNatClampNeg := ⟨_, rfl⟩
  refine zst (st' := [.ref (za Y t3), .int x5, .int x6, .ref (za Y t1)]) (by rw [ex6] <;> rfl) ?_
  have hw := hw x6 ex6
  refine z_callCi hG (z_runSH (As := [.ref (za Y t1), .int x6, .int x5, .ref (za Y t3)]) (st := []) hG k_L_252 (ML_receivedCharacter l hlt h1 h3 hw) ⟨(Nat.le_of_ble_eq_true rfl), (Nat.le_of_ble_eq_true rfl)⟩ rfl (Nat.le_of_ble_eq_true rfl) dL_law_1442 ⟨show cl + 0 + 2 ≤ 601024 from by omega, show sl + 0 + 12 ≤ 7293034 from by omega⟩ rfl) (fun r8 σ7 hw => ?_)
  refine zwiden (k := cl + 2) (n := sl + 12) (show cl + 0 + 2 ≤ cl + 2 from by omega) (show sl + 0 + 12 ≤ sl + 12 from by omega) ?_
  refine z_istore (lv' := [(6, .int r8), (0, .ref b), (1, .ref (za Y t1)), (2, .ref (za Y t2)), (3, .ref (za Y t3)), (4, .ref (za Y t4)), (5, .int v5)]) hG dL_law_1445 (by decide) rfl ?_
  refine z_aload_n hG dL_law_1447 rfl 3 rfl ?_
  refine z_aload_n hG dL_law_1448 rfl 1 rfl ?_
  refine z_iload hG dL_law_1449 6 rfl ?_
  refine z_iconst (v := 1) hG dL_law_1451 (by decide) ?_
  refine z_iadd hG dL_law_1452 ?_
  refine z_topi (fun x9 ex9 => ?_)
  have hw := hw x9 ex9
  obtain ⟨q10, hw⟩ := hw
  refine z_lawld hG hsc q10 dL_law_1453 ?_
  refine z_aload_n hG dL_law_1454 rfl 1 rfl ?_
  refine z_iload hG dL_law_1455 6 rfl ?_
  refine z_iconst (v := 2) hG dL_law_1457 (by decide) ?_
  refine z_iadd hG dL_law_1458 ?_
  refine z_topi (fun x11 ex11 => ?_)
  have hw := hw x11 ex11
  obtain ⟨q12, hw⟩ := hw
  refine z_lawld hG hsc q12 dL_law_1459 ?_
  refine z_topi (fun x13 ex13 => ?_)
  have hw := hw x13 ex13
  obtain ⟨x14, ex14⟩ : ∃ y : Int32, y = xs x9.toNatClampNeg := ⟨_, rfl⟩
  refine zst (st' := [.int x13, .int x14, .ref (za Y t2)]) (by rw [ex14] <;> rfl) ?_
  have hw := hw x14 ex14
  refine z_calli hG (z_runV (As := [.int x14, .int x13]) (st := []) hG k_L_254 (MX12_receivedCharacter l h2 hw) ⟨(Nat.le_of_ble_eq_true rfl), (Nat.le_of_ble_eq_true rfl)⟩ h2 (T := TX12) (N := 23) rfl (by decide) rfl (Nat.le_of_ble_eq_true rfl) dL_law_1460 ⟨show cl + 2 + 0 ≤ 601024 from by omega, show sl + 12 + 0 ≤ 7293034 from by omega⟩ rfl) (fun r16 σ15 hw => ?_)
  refine z_istore (lv' := [(7, .int r16), (6, .int r8), (0, .ref b), (1, .ref (za Y t1)), (2, .ref (za Y t2)), (3, .ref (za Y t3)), (4, .ref (za Y t4)), (5, .int v5)]) hG dL_law_1463 (by decide) rfl ?_
  refine z_aload_n hG dL_law_1465 rfl 4 rfl ?_
  refine z_calli hG (z_runV (As := []) (st := []) hG k_L_149 (MX12_thrown l h2 hw) ⟨(Nat.le_of_ble_eq_true rfl), (Nat.le_of_ble_eq_true rfl)⟩ h2 (T := TX12) (N := 23) rfl (by decide) rfl (Nat.le_of_ble_eq_true rfl) dL_law_1466 ⟨show cl + 2 + 0 ≤ 601024 from by omega, show sl + 12 + 0 ≤ 7293034 from by omega⟩ rfl) (fun r18 σ17 hw => ?_)
  refine z_iload hG dL_law_1469 1 rfl ?_
  refine z_icmp_eq (tgt := 1476) hG dL_law_1471 (by decide) (fun c22 => ?_) (fun c22 => ?_)
  · have hw := hw.1 c22
    refine z_iload hG dL_law_1476 1 rfl ?_
    refine z_if_ne (tgt := 1493) hG dL_law_1478 (by decide) (fun c21 => ?_) (fun c21 => ?_)
    · have hw := hw.2 c21
      refine z_goto (tgt := 2768) hG dL_law_1493 (by decide) ?_
      refine zpick [2, 3, 4, 5, 6, 7] (lv' := [(0, .ref b), (1, .ref (za Y t1)), (2, .ref (za Y t2)), (3, .ref (za Y t3)), (4, .ref (za Y t4)), (5, .int v5)]) rfl ?_
      refine zwiden (k := cl + 2) (n := sl + 12) (by omega) (by omega) ?_
      exact BL_law_2768 hlt hG hsc hkb28 t1 t2 t3 t4 v5 Y σ17 _ _ hw hx h1 h2 h3 h4 (by omega) (by omega)
    · have hw := hw.1 c21
      refine z_aload_n hG dL_law_1481 rfl 5 rfl ?_
      refine z_iconst (v := 0) hG dL_law_1482 (by decide) ?_
      obtain ⟨q19, hw⟩ := hw
      refine z_lald hG h3 q19 dL_law_1483 ?_
      refine z_iload hG dL_law_1484 0 rfl ?_
      refine z_i2l hG dL_law_1486 ?_
      refine z_lcmp hG dL_law_1487 ?_
      refine z_if_eq (tgt := 1493) hG dL_law_1488 (by decide) (fun c20 => ?_) (fun c20 => ?_)
      · have hw := hw.1 c20
        refine z_goto (tgt := 2768) hG dL_law_1493 (by decide) ?_
        refine zpick [2, 3, 4, 5, 6, 7] (lv' := [(0, .ref b), (1, .ref (za Y t1)), (2, .ref (za Y t2)), (3, .ref (za Y t3)), (4, .ref (za Y t4)), (5, .int v5)]) rfl ?_
        refine zwiden (k := cl + 2) (n := sl + 12) (by omega) (by omega) ?_
        exact BL_law_2768 hlt hG hsc hkb28 t1 t2 t3 t4 v5 Y σ17 _ _ hw hx h1 h2 h3 h4 (by omega) (by omega)
      · have hw := hw.2 c20
        refine z_iconst (v := 0) hG dL_law_1491 (by decide) ?_
        exact hw.elim
  · have hw := hw.2 c22
    refine z_iconst (v := 0) hG dL_law_1474 (by decide) ?_
    exact hw.elim
set_option maxRecDepth 100000 in
set_option maxHeartbeats 4000000 in
theorem BL_law_1496 {l : Launch} (hlt : l.stackTraces = false) {E : zE} {Y0 : zY} {p : Program} {e : Env} {s : State} {m : MethodId} {b L : Nat} {xs : Nat → Int32} {below : List Frame} {meth : Method} {c : Code} (hG : zG E p l s m #[Value.ref b] meth c cL_law 9 RL (some .boolean) (zA Y0 s.heap.size)) (hsc : zLaw b L xs s Y0) {nf : Nat} {kb28 : Nat → Nat → Nat → Nat → Int32 → zSp → zS → Prop} (hkb28 : ∀ (t1 : Nat) (t2 : Nat) (t3 : Nat) (t4 : Nat) (v5 : Int32) (Y : zY) (σ : zS) (cl sl : Nat), kb28 t1 t2 t3 t4 v5 (zsp Y) σ → zext Y0 Y → zT Y 11 t1 → zT Y 12 t2 → zT Y 24 t3 → zT Y 25 t4 → cl + (nf * 50 + 0) ≤ 601024 → sl + (nf * 7356 + 0) ≤ 7293034 → WW E Y σ p l e room_1 s m #[Value.ref b] below meth c (zA Y0 s.heap.size) 9 cl sl (lw_Z below #[Value.ref b] s) [(0, .ref b), (1, .ref (za Y t1)), (2, .ref (za Y t2)), (3, .ref (za Y t3)), (4, .ref (za Y t4)), (5, .int v5)] 28 []) : ∀ (t1 : Nat) (t2 : Nat) (t3 : Nat) (t4 : Nat) (v5 : Int32) (Y : zY) (σ : zS) (cl sl : Nat), wL_law_1496 L xs kb28 t1 t2 t3 t4 v5 (zsp Y) σ → zext Y0 Y → zT Y 11 t1 → zT Y 12 t2 → zT Y 24 t3 → zT Y 25 t4 → cl + (0 + (nf * 50 + 0)) ≤ 601024 → sl + (0 + (nf * 7356 + 0)) ≤ 7293034 → WW E Y σ p l e room_1 s m #[Value.ref b] below meth c (zA Y0 s.heap.size) 9 cl sl (lw_Z below #[Value.ref b] s) [(0, .ref b), (1, .ref (za Y t1)), (2, .ref (za Y t2)), (3, .ref (za Y t3)), (4, .ref (za Y t4)), (5, .int v5)] 1496 [] := by
  intro t1 t2 t3 t4 v5 Y σ cl sl hw hx h1 h2 h3 h4 hcl hsl
  unfold wL_law_1496 at hw
  refine z_aload_n hG dL_law_1496 rfl 1 rfl ?_
  refine z_calli hG (z_runV (As := []) (st := []) hG k_L_255 (MX11_pulses l h1 hw) ⟨(Nat.le_of_ble_eq_true rfl), (Nat.le_of_ble_eq_true rfl)⟩ h1 (T := TX11) (N := 9) rfl (by decide) rfl (Nat.le_of_ble_eq_true rfl) dL_law_1497 ⟨show cl + 0 + 0 ≤ 601024 from by omega, show sl + 0 + 0 ≤ 7293034 from by omega⟩ rfl) (fun r2 σ1 hw => ?_)
  refine z_aload_n hG dL_law_1500 rfl 2 rfl ?_
  refine z_calli hG (z_runV (As := []) (st := [.int r2]) hG k_L_258 (MX12_pulses l h2 hw) ⟨(Nat.le_of_ble_eq_true rfl), (Nat.le_of_ble_eq_true rfl)⟩ h2 (T := TX12) (N := 23) rfl (by decide) rfl (Nat.le_of_ble_eq_true rfl) dL_law_1501 ⟨show cl + 0 + 0 ≤ 601024 from by omega, show sl + 0 + 0 ≤ 7293034 from by omega⟩ rfl) (fun r4 σ3 hw => ?_)
  refine z_icmp_eq (tgt := 2768) hG dL_law_1504 (by decide) (fun c5 => ?_) (fun c5 => ?_)
  · have hw := hw.1 c5
    refine zpick [0, 1, 2, 3, 4, 5] (lv' := [(0, .ref b), (1, .ref (za Y t1)), (2, .ref (za Y t2)), (3, .ref (za Y t3)), (4, .ref (za Y t4)), (5, .int v5)]) rfl ?_
    exact BL_law_2768 hlt hG hsc hkb28 t1 t2 t3 t4 v5 Y σ3 _ _ hw hx h1 h2 h3 h4 (by omega) (by omega)
  · have hw := hw.2 c5
    refine z_iconst (v := 0) hG dL_law_1507 (by decide) ?_
    exact hw.elim
set_option maxRecDepth 100000 in
set_option maxHeartbeats 4000000 in
theorem BL_law_1509 {l : Launch} (hlt : l.stackTraces = false) {E : zE} {Y0 : zY} {p : Program} {e : Env} {s : State} {m : MethodId} {b L : Nat} {xs : Nat → Int32} {below : List Frame} {meth : Method} {c : Code} (hG : zG E p l s m #[Value.ref b] meth c cL_law 9 RL (some .boolean) (zA Y0 s.heap.size)) (hsc : zLaw b L xs s Y0) {nf : Nat} {kb28 : Nat → Nat → Nat → Nat → Int32 → zSp → zS → Prop} (hkb28 : ∀ (t1 : Nat) (t2 : Nat) (t3 : Nat) (t4 : Nat) (v5 : Int32) (Y : zY) (σ : zS) (cl sl : Nat), kb28 t1 t2 t3 t4 v5 (zsp Y) σ → zext Y0 Y → zT Y 11 t1 → zT Y 12 t2 → zT Y 24 t3 → zT Y 25 t4 → cl + (nf * 50 + 0) ≤ 601024 → sl + (nf * 7356 + 0) ≤ 7293034 → WW E Y σ p l e room_1 s m #[Value.ref b] below meth c (zA Y0 s.heap.size) 9 cl sl (lw_Z below #[Value.ref b] s) [(0, .ref b), (1, .ref (za Y t1)), (2, .ref (za Y t2)), (3, .ref (za Y t3)), (4, .ref (za Y t4)), (5, .int v5)] 28 []) : ∀ (t1 : Nat) (t2 : Nat) (t3 : Nat) (t4 : Nat) (v5 : Int32) (Y : zY) (σ : zS) (cl sl : Nat), wL_law_1509 L xs kb28 t1 t2 t3 t4 v5 (zsp Y) σ → zext Y0 Y → zT Y 11 t1 → zT Y 12 t2 → zT Y 24 t3 → zT Y 25 t4 → cl + (0 + (nf * 50 + 0)) ≤ 601024 → sl + (0 + (nf * 7356 + 0)) ≤ 7293034 → WW E Y σ p l e room_1 s m #[Value.ref b] below meth c (zA Y0 s.heap.size) 9 cl sl (lw_Z below #[Value.ref b] s) [(0, .ref b), (1, .ref (za Y t1)), (2, .ref (za Y t2)), (3, .ref (za Y t3)), (4, .ref (za Y t4)), (5, .int v5)] 1509 [] := by
  intro t1 t2 t3 t4 v5 Y σ cl sl hw hx h1 h2 h3 h4 hcl hsl
  unfold wL_law_1509 at hw
  refine z_aload_n hG dL_law_1509 rfl 1 rfl ?_
  refine z_calli hG (z_runV (As := []) (st := []) hG k_L_259 (MX11_lostPulses l h1 hw) ⟨(Nat.le_of_ble_eq_true rfl), (Nat.le_of_ble_eq_true rfl)⟩ h1 (T := TX11) (N := 9) rfl (by decide) rfl (Nat.le_of_ble_eq_true rfl) dL_law_1510 ⟨show cl + 0 + 0 ≤ 601024 from by omega, show sl + 0 + 0 ≤ 7293034 from by omega⟩ rfl) (fun r2 σ1 hw => ?_)
  refine z_aload_n hG dL_law_1513 rfl 2 rfl ?_
  refine z_calli hG (z_runV (As := []) (st := [.int r2]) hG k_L_262 (MX12_lostPulses l h2 hw) ⟨(Nat.le_of_ble_eq_true rfl), (Nat.le_of_ble_eq_true rfl)⟩ h2 (T := TX12) (N := 23) rfl (by decide) rfl (Nat.le_of_ble_eq_true rfl) dL_law_1514 ⟨show cl + 0 + 0 ≤ 601024 from by omega, show sl + 0 + 0 ≤ 7293034 from by omega⟩ rfl) (fun r4 σ3 hw => ?_)
  refine z_icmp_eq (tgt := 2768) hG dL_law_1517 (by decide) (fun c5 => ?_) (fun c5 => ?_)
  · have hw := hw.1 c5
    refine zpick [0, 1, 2, 3, 4, 5] (lv' := [(0, .ref b), (1, .ref (za Y t1)), (2, .ref (za Y t2)), (3, .ref (za Y t3)), (4, .ref (za Y t4)), (5, .int v5)]) rfl ?_
    exact BL_law_2768 hlt hG hsc hkb28 t1 t2 t3 t4 v5 Y σ3 _ _ hw hx h1 h2 h3 h4 (by omega) (by omega)
  · have hw := hw.2 c5
    refine z_iconst (v := 0) hG dL_law_1520 (by decide) ?_
    exact hw.elim
set_option maxRecDepth 100000 in
set_option maxHeartbeats 4000000 in
theorem BL_law_1522 {l : Launch} (hlt : l.stackTraces = false) {E : zE} {Y0 : zY} {p : Program} {e : Env} {s : State} {m : MethodId} {b L : Nat} {xs : Nat → Int32} {below : List Frame} {meth : Method} {c : Code} (hG : zG E p l s m #[Value.ref b] meth c cL_law 9 RL (some .boolean) (zA Y0 s.heap.size)) (hsc : zLaw b L xs s Y0) {nf : Nat} {kb28 : Nat → Nat → Nat → Nat → Int32 → zSp → zS → Prop} (hkb28 : ∀ (t1 : Nat) (t2 : Nat) (t3 : Nat) (t4 : Nat) (v5 : Int32) (Y : zY) (σ : zS) (cl sl : Nat), kb28 t1 t2 t3 t4 v5 (zsp Y) σ → zext Y0 Y → zT Y 11 t1 → zT Y 12 t2 → zT Y 24 t3 → zT Y 25 t4 → cl + (nf * 50 + 0) ≤ 601024 → sl + (nf * 7356 + 0) ≤ 7293034 → WW E Y σ p l e room_1 s m #[Value.ref b] below meth c (zA Y0 s.heap.size) 9 cl sl (lw_Z below #[Value.ref b] s) [(0, .ref b), (1, .ref (za Y t1)), (2, .ref (za Y t2)), (3, .ref (za Y t3)), (4, .ref (za Y t4)), (5, .int v5)] 28 []) : ∀ (t1 : Nat) (t2 : Nat) (t3 : Nat) (t4 : Nat) (v5 : Int32) (Y : zY) (σ : zS) (cl sl : Nat), wL_law_1522 L xs kb28 t1 t2 t3 t4 v5 (zsp Y) σ → zext Y0 Y → zT Y 11 t1 → zT Y 12 t2 → zT Y 24 t3 → zT Y 25 t4 → cl + (1 + (nf * 50 + 0)) ≤ 601024 → sl + (6 + (nf * 7356 + 0)) ≤ 7293034 → WW E Y σ p l e room_1 s m #[Value.ref b] below meth c (zA Y0 s.heap.size) 9 cl sl (lw_Z below #[Value.ref b] s) [(0, .ref b), (1, .ref (za Y t1)), (2, .ref (za Y t2)), (3, .ref (za Y t3)), (4, .ref (za Y t4)), (5, .int v5)] 1522 [] := by
  intro t1 t2 t3 t4 v5 Y σ cl sl hw hx h1 h2 h3 h4 hcl hsl
  unfold wL_law_1522 at hw
  refine z_aload_n hG dL_law_1522 rfl 1 rfl ?_
  refine z_aload_n hG dL_law_1523 rfl 0 rfl ?_
  refine z_iload hG dL_law_1524 5 rfl ?_
  refine z_iconst (v := 1) hG dL_law_1526 (by decide) ?_
  refine z_iadd hG dL_law_1527 ?_
  refine z_topi (fun x1 ex1 => ?_)
  have hw := hw x1 ex1
  obtain ⟨q2, hw⟩ := hw
  refine z_lawld hG hsc q2 dL_law_1528 ?_
  refine z_aload_n hG dL_law_1529 rfl 3 rfl ?_
  obtain ⟨x3, ex3⟩ : ∃ y : Int32, y = xs x1.toNatClampNeg := ⟨_, rfl⟩
  refine zst (st' := [.ref (za Y t3), .int x3, .ref (za Y t1)]) (by rw [ex3] <;> rfl) ?_
  have hw := hw x3 ex3
  refine z_callCi hG (z_runSH (As := [.ref (za Y t1), .int x3, .ref (za Y t3)]) (st := []) hG k_L_263 (ML_prints l hlt h1 h3 hw) ⟨(Nat.le_of_ble_eq_true rfl), (Nat.le_of_ble_eq_true rfl)⟩ rfl (Nat.le_of_ble_eq_true rfl) dL_law_1530 ⟨show cl + 0 + 1 ≤ 601024 from by omega, show sl + 0 + 6 ≤ 7293034 from by omega⟩ rfl) (fun r5 σ4 hw => ?_)
  refine zwiden (k := cl + 1) (n := sl + 6) (show cl + 0 + 1 ≤ cl + 1 from by omega) (show sl + 0 + 6 ≤ sl + 6 from by omega) ?_
  refine z_istore (lv' := [(6, .int r5), (0, .ref b), (1, .ref (za Y t1)), (2, .ref (za Y t2)), (3, .ref (za Y t3)), (4, .ref (za Y t4)), (5, .int v5)]) hG dL_law_1533 (by decide) rfl ?_
  refine z_aload_n hG dL_law_1535 rfl 3 rfl ?_
  refine z_aload_n hG dL_law_1536 rfl 1 rfl ?_
  refine z_iload hG dL_law_1537 6 rfl ?_
  refine z_iconst (v := 1) hG dL_law_1539 (by decide) ?_
  refine z_iadd hG dL_law_1540 ?_
  refine z_topi (fun x6 ex6 => ?_)
  have hw := hw x6 ex6
  obtain ⟨q7, hw⟩ := hw
  refine z_lawld hG hsc q7 dL_law_1541 ?_
  refine z_topi (fun x8 ex8 => ?_)
  have hw := hw x8 ex8
  refine z_calli hG (z_runV (As := [.int x8]) (st := []) hG k_L_265 (MX12_prints l h2 hw) ⟨(Nat.le_of_ble_eq_true rfl), (Nat.le_of_ble_eq_true rfl)⟩ h2 (T := TX12) (N := 23) rfl (by decide) rfl (Nat.le_of_ble_eq_true rfl) dL_law_1542 ⟨show cl + 1 + 0 ≤ 601024 from by omega, show sl + 6 + 0 ≤ 7293034 from by omega⟩ rfl) (fun r10 σ9 hw => ?_)
  refine z_istore (lv' := [(7, .int r10), (6, .int r5), (0, .ref b), (1, .ref (za Y t1)), (2, .ref (za Y t2)), (3, .ref (za Y t3)), (4, .ref (za Y t4)), (5, .int v5)]) hG dL_law_1545 (by decide) rfl ?_
  refine z_aload_n hG dL_law_1547 rfl 4 rfl ?_
  refine z_calli hG (z_runV (As := []) (st := []) hG k_L_149 (MX12_thrown l h2 hw) ⟨(Nat.le_of_ble_eq_true rfl), (Nat.le_of_ble_eq_true rfl)⟩ h2 (T := TX12) (N := 23) rfl (by decide) rfl (Nat.le_of_ble_eq_true rfl) dL_law_1548 ⟨show cl + 1 + 0 ≤ 601024 from by omega, show sl + 6 + 0 ≤ 7293034 from by omega⟩ rfl) (fun r12 σ11 hw => ?_)
  refine z_iload hG dL_law_1551 1 rfl ?_
  refine z_icmp_eq (tgt := 1558) hG dL_law_1553 (by decide) (fun c16 => ?_) (fun c16 => ?_)
  · have hw := hw.1 c16
    refine z_iload hG dL_law_1558 1 rfl ?_
    refine z_if_ne (tgt := 1575) hG dL_law_1560 (by decide) (fun c15 => ?_) (fun c15 => ?_)
    · have hw := hw.2 c15
      refine z_goto (tgt := 2768) hG dL_law_1575 (by decide) ?_
      refine zpick [2, 3, 4, 5, 6, 7] (lv' := [(0, .ref b), (1, .ref (za Y t1)), (2, .ref (za Y t2)), (3, .ref (za Y t3)), (4, .ref (za Y t4)), (5, .int v5)]) rfl ?_
      refine zwiden (k := cl + 1) (n := sl + 6) (by omega) (by omega) ?_
      exact BL_law_2768 hlt hG hsc hkb28 t1 t2 t3 t4 v5 Y σ11 _ _ hw hx h1 h2 h3 h4 (by omega) (by omega)
    · have hw := hw.1 c15
      refine z_aload_n hG dL_law_1563 rfl 5 rfl ?_
      refine z_iconst (v := 0) hG dL_law_1564 (by decide) ?_
      obtain ⟨q13, hw⟩ := hw
      refine z_lald hG h3 q13 dL_law_1565 ?_
      refine z_iload hG dL_law_1566 0 rfl ?_
      refine z_i2l hG dL_law_1568 ?_
      refine z_lcmp hG dL_law_1569 ?_
      refine z_if_eq (tgt := 1575) hG dL_law_1570 (by decide) (fun c14 => ?_) (fun c14 => ?_)
      · have hw := hw.1 c14
        refine z_goto (tgt := 2768) hG dL_law_1575 (by decide) ?_
        refine zpick [2, 3, 4, 5, 6, 7] (lv' := [(0, .ref b), (1, .ref (za Y t1)), (2, .ref (za Y t2)), (3, .ref (za Y t3)), (4, .ref (za Y t4)), (5, .int v5)]) rfl ?_
        refine zwiden (k := cl + 1) (n := sl + 6) (by omega) (by omega) ?_
        exact BL_law_2768 hlt hG hsc hkb28 t1 t2 t3 t4 v5 Y σ11 _ _ hw hx h1 h2 h3 h4 (by omega) (by omega)
      · have hw := hw.2 c14
        refine z_iconst (v := 0) hG dL_law_1573 (by decide) ?_
        exact hw.elim
  · have hw := hw.2 c16
    refine z_iconst (v := 0) hG dL_law_1556 (by decide) ?_
    exact hw.elim
set_option maxRecDepth 100000 in
set_option maxHeartbeats 4000000 in
theorem BL_law_1578 {l : Launch} (hlt : l.stackTraces = false) {E : zE} {Y0 : zY} {p : Program} {e : Env} {s : State} {m : MethodId} {b L : Nat} {xs : Nat → Int32} {below : List Frame} {meth : Method} {c : Code} (hG : zG E p l s m #[Value.ref b] meth c cL_law 9 RL (some .boolean) (zA Y0 s.heap.size)) (hsc : zLaw b L xs s Y0) {nf : Nat} {kb28 : Nat → Nat → Nat → Nat → Int32 → zSp → zS → Prop} (hkb28 : ∀ (t1 : Nat) (t2 : Nat) (t3 : Nat) (t4 : Nat) (v5 : Int32) (Y : zY) (σ : zS) (cl sl : Nat), kb28 t1 t2 t3 t4 v5 (zsp Y) σ → zext Y0 Y → zT Y 11 t1 → zT Y 12 t2 → zT Y 24 t3 → zT Y 25 t4 → cl + (nf * 50 + 0) ≤ 601024 → sl + (nf * 7356 + 0) ≤ 7293034 → WW E Y σ p l e room_1 s m #[Value.ref b] below meth c (zA Y0 s.heap.size) 9 cl sl (lw_Z below #[Value.ref b] s) [(0, .ref b), (1, .ref (za Y t1)), (2, .ref (za Y t2)), (3, .ref (za Y t3)), (4, .ref (za Y t4)), (5, .int v5)] 28 []) : ∀ (t1 : Nat) (t2 : Nat) (t3 : Nat) (t4 : Nat) (v5 : Int32) (Y : zY) (σ : zS) (cl sl : Nat), wL_law_1578 L xs kb28 t1 t2 t3 t4 v5 (zsp Y) σ → zext Y0 Y → zT Y 11 t1 → zT Y 12 t2 → zT Y 24 t3 → zT Y 25 t4 → cl + (1 + (nf * 50 + 0)) ≤ 601024 → sl + (6 + (nf * 7356 + 0)) ≤ 7293034 → WW E Y σ p l e room_1 s m #[Value.ref b] below meth c (zA Y0 s.heap.size) 9 cl sl (lw_Z below #[Value.ref b] s) [(0, .ref b), (1, .ref (za Y t1)), (2, .ref (za Y t2)), (3, .ref (za Y t3)), (4, .ref (za Y t4)), (5, .int v5)] 1578 [] := by
  intro t1 t2 t3 t4 v5 Y σ cl sl hw hx h1 h2 h3 h4 hcl hsl
  unfold wL_law_1578 at hw
  refine z_aload_n hG dL_law_1578 rfl 1 rfl ?_
  refine z_aload_n hG dL_law_1579 rfl 0 rfl ?_
  refine z_iload hG dL_law_1580 5 rfl ?_
  refine z_iconst (v := 1) hG dL_law_1582 (by decide) ?_
  refine z_iadd hG dL_law_1583 ?_
  refine z_topi (fun x1 ex1 => ?_)
  have hw := hw x1 ex1
  obtain ⟨q2, hw⟩ := hw
  refine z_lawld hG hsc q2 dL_law_1584 ?_
  refine z_aload_n hG dL_law_1585 rfl 3 rfl ?_
  obtain ⟨x3, ex3⟩ : ∃ y : Int32, y = xs x1.toNatClampNeg := ⟨_, rfl⟩
  refine zst (st' := [.ref (za Y t3), .int x3, .ref (za Y t1)]) (by rw [ex3] <;> rfl) ?_
  have hw := hw x3 ex3
  refine z_callCi hG (z_runSH (As := [.ref (za Y t1), .int x3, .ref (za Y t3)]) (st := []) hG k_L_266 (ML_misprints l hlt h1 h3 hw) ⟨(Nat.le_of_ble_eq_true rfl), (Nat.le_of_ble_eq_true rfl)⟩ rfl (Nat.le_of_ble_eq_true rfl) dL_law_1586 ⟨show cl + 0 + 1 ≤ 601024 from by omega, show sl + 0 + 6 ≤ 7293034 from by omega⟩ rfl) (fun r5 σ4 hw => ?_)
  refine zwiden (k := cl + 1) (n := sl + 6) (show cl + 0 + 1 ≤ cl + 1 from by omega) (show sl + 0 + 6 ≤ sl + 6 from by omega) ?_
  refine z_istore (lv' := [(6, .int r5), (0, .ref b), (1, .ref (za Y t1)), (2, .ref (za Y t2)), (3, .ref (za Y t3)), (4, .ref (za Y t4)), (5, .int v5)]) hG dL_law_1589 (by decide) rfl ?_
  refine z_aload_n hG dL_law_1591 rfl 3 rfl ?_
  refine z_aload_n hG dL_law_1592 rfl 1 rfl ?_
  refine z_iload hG dL_law_1593 6 rfl ?_
  refine z_iconst (v := 1) hG dL_law_1595 (by decide) ?_
  refine z_iadd hG dL_law_1596 ?_
  refine z_topi (fun x6 ex6 => ?_)
  have hw := hw x6 ex6
  obtain ⟨q7, hw⟩ := hw
  refine z_lawld hG hsc q7 dL_law_1597 ?_
  refine z_topi (fun x8 ex8 => ?_)
  have hw := hw x8 ex8
  refine z_calli hG (z_runV (As := [.int x8]) (st := []) hG k_L_268 (MX12_misprints l h2 hw) ⟨(Nat.le_of_ble_eq_true rfl), (Nat.le_of_ble_eq_true rfl)⟩ h2 (T := TX12) (N := 23) rfl (by decide) rfl (Nat.le_of_ble_eq_true rfl) dL_law_1598 ⟨show cl + 1 + 0 ≤ 601024 from by omega, show sl + 6 + 0 ≤ 7293034 from by omega⟩ rfl) (fun r10 σ9 hw => ?_)
  refine z_istore (lv' := [(7, .int r10), (6, .int r5), (0, .ref b), (1, .ref (za Y t1)), (2, .ref (za Y t2)), (3, .ref (za Y t3)), (4, .ref (za Y t4)), (5, .int v5)]) hG dL_law_1601 (by decide) rfl ?_
  refine z_aload_n hG dL_law_1603 rfl 4 rfl ?_
  refine z_calli hG (z_runV (As := []) (st := []) hG k_L_149 (MX12_thrown l h2 hw) ⟨(Nat.le_of_ble_eq_true rfl), (Nat.le_of_ble_eq_true rfl)⟩ h2 (T := TX12) (N := 23) rfl (by decide) rfl (Nat.le_of_ble_eq_true rfl) dL_law_1604 ⟨show cl + 1 + 0 ≤ 601024 from by omega, show sl + 6 + 0 ≤ 7293034 from by omega⟩ rfl) (fun r12 σ11 hw => ?_)
  refine z_iload hG dL_law_1607 1 rfl ?_
  refine z_icmp_eq (tgt := 1614) hG dL_law_1609 (by decide) (fun c16 => ?_) (fun c16 => ?_)
  · have hw := hw.1 c16
    refine z_iload hG dL_law_1614 1 rfl ?_
    refine z_if_ne (tgt := 1631) hG dL_law_1616 (by decide) (fun c15 => ?_) (fun c15 => ?_)
    · have hw := hw.2 c15
      refine z_goto (tgt := 2768) hG dL_law_1631 (by decide) ?_
      refine zpick [2, 3, 4, 5, 6, 7] (lv' := [(0, .ref b), (1, .ref (za Y t1)), (2, .ref (za Y t2)), (3, .ref (za Y t3)), (4, .ref (za Y t4)), (5, .int v5)]) rfl ?_
      refine zwiden (k := cl + 1) (n := sl + 6) (by omega) (by omega) ?_
      exact BL_law_2768 hlt hG hsc hkb28 t1 t2 t3 t4 v5 Y σ11 _ _ hw hx h1 h2 h3 h4 (by omega) (by omega)
    · have hw := hw.1 c15
      refine z_aload_n hG dL_law_1619 rfl 5 rfl ?_
      refine z_iconst (v := 0) hG dL_law_1620 (by decide) ?_
      obtain ⟨q13, hw⟩ := hw
      refine z_lald hG h3 q13 dL_law_1621 ?_
      refine z_iload hG dL_law_1622 0 rfl ?_
      refine z_i2l hG dL_law_1624 ?_
      refine z_lcmp hG dL_law_1625 ?_
      refine z_if_eq (tgt := 1631) hG dL_law_1626 (by decide) (fun c14 => ?_) (fun c14 => ?_)
      · have hw := hw.1 c14
        refine z_goto (tgt := 2768) hG dL_law_1631 (by decide) ?_
        refine zpick [2, 3, 4, 5, 6, 7] (lv' := [(0, .ref b), (1, .ref (za Y t1)), (2, .ref (za Y t2)), (3, .ref (za Y t3)), (4, .ref (za Y t4)), (5, .int v5)]) rfl ?_
        refine zwiden (k := cl + 1) (n := sl + 6) (by omega) (by omega) ?_
        exact BL_law_2768 hlt hG hsc hkb28 t1 t2 t3 t4 v5 Y σ11 _ _ hw hx h1 h2 h3 h4 (by omega) (by omega)
      · have hw := hw.2 c14
        refine z_iconst (v := 0) hG dL_law_1629 (by decide) ?_
        exact hw.elim
  · have hw := hw.2 c16
    refine z_iconst (v := 0) hG dL_law_1612 (by decide) ?_
    exact hw.elim
set_option maxRecDepth 100000 in
set_option maxHeartbeats 4000000 in
theorem BL_law_1634 {l : Launch} (hlt : l.stackTraces = false) {E : zE} {Y0 : zY} {p : Program} {e : Env} {s : State} {m : MethodId} {b L : Nat} {xs : Nat → Int32} {below : List Frame} {meth : Method} {c : Code} (hG : zG E p l s m #[Value.ref b] meth c cL_law 9 RL (some .boolean) (zA Y0 s.heap.size)) (hsc : zLaw b L xs s Y0) {nf : Nat} {kb28 : Nat → Nat → Nat → Nat → Int32 → zSp → zS → Prop} (hkb28 : ∀ (t1 : Nat) (t2 : Nat) (t3 : Nat) (t4 : Nat) (v5 : Int32) (Y : zY) (σ : zS) (cl sl : Nat), kb28 t1 t2 t3 t4 v5 (zsp Y) σ → zext Y0 Y → zT Y 11 t1 → zT Y 12 t2 → zT Y 24 t3 → zT Y 25 t4 → cl + (nf * 50 + 0) ≤ 601024 → sl + (nf * 7356 + 0) ≤ 7293034 → WW E Y σ p l e room_1 s m #[Value.ref b] below meth c (zA Y0 s.heap.size) 9 cl sl (lw_Z below #[Value.ref b] s) [(0, .ref b), (1, .ref (za Y t1)), (2, .ref (za Y t2)), (3, .ref (za Y t3)), (4, .ref (za Y t4)), (5, .int v5)] 28 []) : ∀ (t1 : Nat) (t2 : Nat) (t3 : Nat) (t4 : Nat) (v5 : Int32) (Y : zY) (σ : zS) (cl sl : Nat), wL_law_1634 L xs kb28 t1 t2 t3 t4 v5 (zsp Y) σ → zext Y0 Y → zT Y 11 t1 → zT Y 12 t2 → zT Y 24 t3 → zT Y 25 t4 → cl + (1 + (nf * 50 + 0)) ≤ 601024 → sl + (6 + (nf * 7356 + 0)) ≤ 7293034 → WW E Y σ p l e room_1 s m #[Value.ref b] below meth c (zA Y0 s.heap.size) 9 cl sl (lw_Z below #[Value.ref b] s) [(0, .ref b), (1, .ref (za Y t1)), (2, .ref (za Y t2)), (3, .ref (za Y t3)), (4, .ref (za Y t4)), (5, .int v5)] 1634 [] := by
  intro t1 t2 t3 t4 v5 Y σ cl sl hw hx h1 h2 h3 h4 hcl hsl
  unfold wL_law_1634 at hw
  refine z_aload_n hG dL_law_1634 rfl 1 rfl ?_
  refine z_aload_n hG dL_law_1635 rfl 0 rfl ?_
  refine z_iload hG dL_law_1636 5 rfl ?_
  refine z_iconst (v := 1) hG dL_law_1638 (by decide) ?_
  refine z_iadd hG dL_law_1639 ?_
  refine z_topi (fun x1 ex1 => ?_)
  have hw := hw x1 ex1
  obtain ⟨q2, hw⟩ := hw
  refine z_lawld hG hsc q2 dL_law_1640 ?_
  refine z_aload_n hG dL_law_1641 rfl 3 rfl ?_
  obtain ⟨x3, ex3⟩ : ∃ y : Int32, y = xs x1.toNatClampNeg := ⟨_, rfl⟩
  refine zst (st' := [.ref (za Y t3), .int x3, .ref (za Y t1)]) (by rw [ex3] <;> rfl) ?_
  have hw := hw x3 ex3
  refine z_callCi hG (z_runSH (As := [.ref (za Y t1), .int x3, .ref (za Y t3)]) (st := []) hG k_L_269 (ML_worstOffset l hlt h1 h3 hw) ⟨(Nat.le_of_ble_eq_true rfl), (Nat.le_of_ble_eq_true rfl)⟩ rfl (Nat.le_of_ble_eq_true rfl) dL_law_1642 ⟨show cl + 0 + 1 ≤ 601024 from by omega, show sl + 0 + 6 ≤ 7293034 from by omega⟩ rfl) (fun r5 σ4 hw => ?_)
  refine zwiden (k := cl + 1) (n := sl + 6) (show cl + 0 + 1 ≤ cl + 1 from by omega) (show sl + 0 + 6 ≤ sl + 6 from by omega) ?_
  refine z_istore (lv' := [(6, .int r5), (0, .ref b), (1, .ref (za Y t1)), (2, .ref (za Y t2)), (3, .ref (za Y t3)), (4, .ref (za Y t4)), (5, .int v5)]) hG dL_law_1645 (by decide) rfl ?_
  refine z_aload_n hG dL_law_1647 rfl 3 rfl ?_
  refine z_aload_n hG dL_law_1648 rfl 1 rfl ?_
  refine z_iload hG dL_law_1649 6 rfl ?_
  refine z_iconst (v := 1) hG dL_law_1651 (by decide) ?_
  refine z_iadd hG dL_law_1652 ?_
  refine z_topi (fun x6 ex6 => ?_)
  have hw := hw x6 ex6
  obtain ⟨q7, hw⟩ := hw
  refine z_lawld hG hsc q7 dL_law_1653 ?_
  refine z_topi (fun x8 ex8 => ?_)
  have hw := hw x8 ex8
  refine z_calli hG (z_runV (As := [.int x8]) (st := []) hG k_L_271 (MX12_worstOffset l h2 hw) ⟨(Nat.le_of_ble_eq_true rfl), (Nat.le_of_ble_eq_true rfl)⟩ h2 (T := TX12) (N := 23) rfl (by decide) rfl (Nat.le_of_ble_eq_true rfl) dL_law_1654 ⟨show cl + 1 + 0 ≤ 601024 from by omega, show sl + 6 + 0 ≤ 7293034 from by omega⟩ rfl) (fun r10 σ9 hw => ?_)
  refine z_istore (lv' := [(7, .int r10), (6, .int r5), (0, .ref b), (1, .ref (za Y t1)), (2, .ref (za Y t2)), (3, .ref (za Y t3)), (4, .ref (za Y t4)), (5, .int v5)]) hG dL_law_1657 (by decide) rfl ?_
  refine z_aload_n hG dL_law_1659 rfl 4 rfl ?_
  refine z_calli hG (z_runV (As := []) (st := []) hG k_L_149 (MX12_thrown l h2 hw) ⟨(Nat.le_of_ble_eq_true rfl), (Nat.le_of_ble_eq_true rfl)⟩ h2 (T := TX12) (N := 23) rfl (by decide) rfl (Nat.le_of_ble_eq_true rfl) dL_law_1660 ⟨show cl + 1 + 0 ≤ 601024 from by omega, show sl + 6 + 0 ≤ 7293034 from by omega⟩ rfl) (fun r12 σ11 hw => ?_)
  refine z_iload hG dL_law_1663 1 rfl ?_
  refine z_icmp_eq (tgt := 1670) hG dL_law_1665 (by decide) (fun c16 => ?_) (fun c16 => ?_)
  · have hw := hw.1 c16
    refine z_iload hG dL_law_1670 1 rfl ?_
    refine z_if_ne (tgt := 1687) hG dL_law_1672 (by decide) (fun c15 => ?_) (fun c15 => ?_)
    · have hw := hw.2 c15
      refine z_goto (tgt := 2768) hG dL_law_1687 (by decide) ?_
      refine zpick [2, 3, 4, 5, 6, 7] (lv' := [(0, .ref b), (1, .ref (za Y t1)), (2, .ref (za Y t2)), (3, .ref (za Y t3)), (4, .ref (za Y t4)), (5, .int v5)]) rfl ?_
      refine zwiden (k := cl + 1) (n := sl + 6) (by omega) (by omega) ?_
      exact BL_law_2768 hlt hG hsc hkb28 t1 t2 t3 t4 v5 Y σ11 _ _ hw hx h1 h2 h3 h4 (by omega) (by omega)
    · have hw := hw.1 c15
      refine z_aload_n hG dL_law_1675 rfl 5 rfl ?_
      refine z_iconst (v := 0) hG dL_law_1676 (by decide) ?_
      obtain ⟨q13, hw⟩ := hw
      refine z_lald hG h3 q13 dL_law_1677 ?_
      refine z_iload hG dL_law_1678 0 rfl ?_
      refine z_i2l hG dL_law_1680 ?_
      refine z_lcmp hG dL_law_1681 ?_
      refine z_if_eq (tgt := 1687) hG dL_law_1682 (by decide) (fun c14 => ?_) (fun c14 => ?_)
      · have hw := hw.1 c14
        refine z_goto (tgt := 2768) hG dL_law_1687 (by decide) ?_
        refine zpick [2, 3, 4, 5, 6, 7] (lv' := [(0, .ref b), (1, .ref (za Y t1)), (2, .ref (za Y t2)), (3, .ref (za Y t3)), (4, .ref (za Y t4)), (5, .int v5)]) rfl ?_
        refine zwiden (k := cl + 1) (n := sl + 6) (by omega) (by omega) ?_
        exact BL_law_2768 hlt hG hsc hkb28 t1 t2 t3 t4 v5 Y σ11 _ _ hw hx h1 h2 h3 h4 (by omega) (by omega)
      · have hw := hw.2 c14
        refine z_iconst (v := 0) hG dL_law_1685 (by decide) ?_
        exact hw.elim
  · have hw := hw.2 c16
    refine z_iconst (v := 0) hG dL_law_1668 (by decide) ?_
    exact hw.elim
set_option maxRecDepth 100000 in
set_option maxHeartbeats 4000000 in
theorem BL_law_1690 {l : Launch} (hlt : l.stackTraces = false) {E : zE} {Y0 : zY} {p : Program} {e : Env} {s : State} {m : MethodId} {b L : Nat} {xs : Nat → Int32} {below : List Frame} {meth : Method} {c : Code} (hG : zG E p l s m #[Value.ref b] meth c cL_law 9 RL (some .boolean) (zA Y0 s.heap.size)) (hsc : zLaw b L xs s Y0) {nf : Nat} {kb28 : Nat → Nat → Nat → Nat → Int32 → zSp → zS → Prop} (hkb28 : ∀ (t1 : Nat) (t2 : Nat) (t3 : Nat) (t4 : Nat) (v5 : Int32) (Y : zY) (σ : zS) (cl sl : Nat), kb28 t1 t2 t3 t4 v5 (zsp Y) σ → zext Y0 Y → zT Y 11 t1 → zT Y 12 t2 → zT Y 24 t3 → zT Y 25 t4 → cl + (nf * 50 + 0) ≤ 601024 → sl + (nf * 7356 + 0) ≤ 7293034 → WW E Y σ p l e room_1 s m #[Value.ref b] below meth c (zA Y0 s.heap.size) 9 cl sl (lw_Z below #[Value.ref b] s) [(0, .ref b), (1, .ref (za Y t1)), (2, .ref (za Y t2)), (3, .ref (za Y t3)), (4, .ref (za Y t4)), (5, .int v5)] 28 []) : ∀ (t1 : Nat) (t2 : Nat) (t3 : Nat) (t4 : Nat) (v5 : Int32) (Y : zY) (σ : zS) (cl sl : Nat), wL_law_1690 L xs kb28 t1 t2 t3 t4 v5 (zsp Y) σ → zext Y0 Y → zT Y 11 t1 → zT Y 12 t2 → zT Y 24 t3 → zT Y 25 t4 → cl + (1 + (nf * 50 + 0)) ≤ 601024 → sl + (6 + (nf * 7356 + 0)) ≤ 7293034 → WW E Y σ p l e room_1 s m #[Value.ref b] below meth c (zA Y0 s.heap.size) 9 cl sl (lw_Z below #[Value.ref b] s) [(0, .ref b), (1, .ref (za Y t1)), (2, .ref (za Y t2)), (3, .ref (za Y t3)), (4, .ref (za Y t4)), (5, .int v5)] 1690 [] := by
  intro t1 t2 t3 t4 v5 Y σ cl sl hw hx h1 h2 h3 h4 hcl hsl
  unfold wL_law_1690 at hw
  refine z_aload_n hG dL_law_1690 rfl 1 rfl ?_
  refine z_aload_n hG dL_law_1691 rfl 0 rfl ?_
  refine z_iload hG dL_law_1692 5 rfl ?_
  refine z_iconst (v := 1) hG dL_law_1694 (by decide) ?_
  refine z_iadd hG dL_law_1695 ?_
  refine z_topi (fun x1 ex1 => ?_)
  have hw := hw x1 ex1
  obtain ⟨q2, hw⟩ := hw
  refine z_lawld hG hsc q2 dL_law_1696 ?_
  refine z_aload hG dL_law_1697 4 rfl ?_
  obtain ⟨x3, ex3⟩ : ∃ y : Int32, y = xs x1.toNatClampNeg := ⟨_, rfl⟩
  refine zst (st' := [.ref (za Y t4), .int x3, .ref (za Y t1)]) (by rw [ex3] <;> rfl) ?_
  have hw := hw x3 ex3
  refine z_callCi hG (z_runSH (As := [.ref (za Y t1), .int x3, .ref (za Y t4)]) (st := []) hG k_L_272 (ML_meanOffset l hlt h1 h4 hw) ⟨(Nat.le_of_ble_eq_true rfl), (Nat.le_of_ble_eq_true rfl)⟩ rfl (Nat.le_of_ble_eq_true rfl) dL_law_1699 ⟨show cl + 0 + 1 ≤ 601024 from by omega, show sl + 0 + 6 ≤ 7293034 from by omega⟩ rfl) (fun r5 σ4 hw => ?_)
  refine zwiden (k := cl + 1) (n := sl + 6) (show cl + 0 + 1 ≤ cl + 1 from by omega) (show sl + 0 + 6 ≤ sl + 6 from by omega) ?_
  refine z_istore (lv' := [(6, .int r5), (0, .ref b), (1, .ref (za Y t1)), (2, .ref (za Y t2)), (3, .ref (za Y t3)), (4, .ref (za Y t4)), (5, .int v5)]) hG dL_law_1702 (by decide) rfl ?_
  refine z_aload_n hG dL_law_1704 rfl 3 rfl ?_
  refine z_aload_n hG dL_law_1705 rfl 1 rfl ?_
  refine z_iload hG dL_law_1706 6 rfl ?_
  refine z_iconst (v := 1) hG dL_law_1708 (by decide) ?_
  refine z_iadd hG dL_law_1709 ?_
  refine z_topi (fun x6 ex6 => ?_)
  have hw := hw x6 ex6
  obtain ⟨q7, hw⟩ := hw
  refine z_lawld hG hsc q7 dL_law_1710 ?_
  refine z_topi (fun x8 ex8 => ?_)
  have hw := hw x8 ex8
  refine z_calld hG (z_runV (As := [.int x8]) (st := []) hG k_L_275 (MX12_meanOffset l h2 hw) ⟨(Nat.le_of_ble_eq_true rfl), (Nat.le_of_ble_eq_true rfl)⟩ h2 (T := TX12) (N := 23) rfl (by decide) rfl (Nat.le_of_ble_eq_true rfl) dL_law_1711 ⟨show cl + 1 + 0 ≤ 601024 from by omega, show sl + 6 + 0 ≤ 7293034 from by omega⟩ rfl) (fun r10 σ9 hw => ?_)
  refine z_dstore (lv' := [(7, .double r10), (6, .int r5), (0, .ref b), (1, .ref (za Y t1)), (2, .ref (za Y t2)), (3, .ref (za Y t3)), (4, .ref (za Y t4)), (5, .int v5)]) hG dL_law_1714 (by decide) rfl ?_
  refine z_aload_n hG dL_law_1716 rfl 4 rfl ?_
  refine z_calli hG (z_runV (As := []) (st := []) hG k_L_149 (MX12_thrown l h2 hw) ⟨(Nat.le_of_ble_eq_true rfl), (Nat.le_of_ble_eq_true rfl)⟩ h2 (T := TX12) (N := 23) rfl (by decide) rfl (Nat.le_of_ble_eq_true rfl) dL_law_1717 ⟨show cl + 1 + 0 ≤ 601024 from by omega, show sl + 6 + 0 ≤ 7293034 from by omega⟩ rfl) (fun r12 σ11 hw => ?_)
  refine z_iload hG dL_law_1720 1 rfl ?_
  refine z_icmp_eq (tgt := 1727) hG dL_law_1722 (by decide) (fun c20 => ?_) (fun c20 => ?_)
  · have hw := hw.1 c20
    refine z_iload hG dL_law_1727 1 rfl ?_
    refine z_if_ne (tgt := 1764) hG dL_law_1729 (by decide) (fun c19 => ?_) (fun c19 => ?_)
    · have hw := hw.2 c19
      refine z_goto (tgt := 2768) hG dL_law_1764 (by decide) ?_
      refine zpick [2, 3, 4, 5, 6, 7] (lv' := [(0, .ref b), (1, .ref (za Y t1)), (2, .ref (za Y t2)), (3, .ref (za Y t3)), (4, .ref (za Y t4)), (5, .int v5)]) rfl ?_
      refine zwiden (k := cl + 1) (n := sl + 6) (by omega) (by omega) ?_
      exact BL_law_2768 hlt hG hsc hkb28 t1 t2 t3 t4 v5 Y σ11 _ _ hw hx h1 h2 h3 h4 (by omega) (by omega)
    · have hw := hw.1 c19
      refine z_aload hG dL_law_1732 6 rfl ?_
      refine z_iconst (v := 0) hG dL_law_1734 (by decide) ?_
      obtain ⟨q13, hw⟩ := hw
      refine z_dald hG h4 q13 dL_law_1735 ?_
      refine z_dload hG dL_law_1736 0 rfl ?_
      refine z_dcmp hG dL_law_1738 ?_
      refine z_if_eq (tgt := 1764) hG dL_law_1739 (by decide) (fun c18 => ?_) (fun c18 => ?_)
      · have hw := hw.1 c18
        refine z_goto (tgt := 2768) hG dL_law_1764 (by decide) ?_
        refine zpick [2, 3, 4, 5, 6, 7] (lv' := [(0, .ref b), (1, .ref (za Y t1)), (2, .ref (za Y t2)), (3, .ref (za Y t3)), (4, .ref (za Y t4)), (5, .int v5)]) rfl ?_
        refine zwiden (k := cl + 1) (n := sl + 6) (by omega) (by omega) ?_
        exact BL_law_2768 hlt hG hsc hkb28 t1 t2 t3 t4 v5 Y σ11 _ _ hw hx h1 h2 h3 h4 (by omega) (by omega)
      · have hw := hw.2 c18
        refine z_aload hG dL_law_1742 6 rfl ?_
        refine z_iconst (v := 0) hG dL_law_1744 (by decide) ?_
        obtain ⟨q14, hw⟩ := hw
        refine z_dald hG h4 q14 dL_law_1745 ?_
        refine z_aload hG dL_law_1746 6 rfl ?_
        refine z_iconst (v := 0) hG dL_law_1748 (by decide) ?_
        obtain ⟨q15, hw⟩ := hw
        refine z_dald hG h4 q15 dL_law_1749 ?_
        refine z_dcmp hG dL_law_1750 ?_
        refine z_if_eq (tgt := 1762) hG dL_law_1751 (by decide) (fun c17 => ?_) (fun c17 => ?_)
        · have hw := hw.1 c17
          refine z_iconst (v := 0) hG dL_law_1762 (by decide) ?_
          exact hw.elim
        · have hw := hw.2 c17
          refine z_dload hG dL_law_1754 0 rfl ?_
          refine z_dload hG dL_law_1756 0 rfl ?_
          refine z_dcmp hG dL_law_1758 ?_
          refine z_if_ne (tgt := 1764) hG dL_law_1759 (by decide) (fun c16 => ?_) (fun c16 => ?_)
          · have hw := hw.2 c16
            refine z_goto (tgt := 2768) hG dL_law_1764 (by decide) ?_
            refine zpick [2, 3, 4, 5, 6, 7] (lv' := [(0, .ref b), (1, .ref (za Y t1)), (2, .ref (za Y t2)), (3, .ref (za Y t3)), (4, .ref (za Y t4)), (5, .int v5)]) rfl ?_
            refine zwiden (k := cl + 1) (n := sl + 6) (by omega) (by omega) ?_
            exact BL_law_2768 hlt hG hsc hkb28 t1 t2 t3 t4 v5 Y σ11 _ _ hw hx h1 h2 h3 h4 (by omega) (by omega)
          · have hw := hw.1 c16
            refine z_iconst (v := 0) hG dL_law_1762 (by decide) ?_
            exact hw.elim
  · have hw := hw.2 c20
    refine z_iconst (v := 0) hG dL_law_1725 (by decide) ?_
    exact hw.elim
set_option maxRecDepth 100000 in
set_option maxHeartbeats 4000000 in
theorem BL_law_1767 {l : Launch} (hlt : l.stackTraces = false) {E : zE} {Y0 : zY} {p : Program} {e : Env} {s : State} {m : MethodId} {b L : Nat} {xs : Nat → Int32} {below : List Frame} {meth : Method} {c : Code} (hG : zG E p l s m #[Value.ref b] meth c cL_law 9 RL (some .boolean) (zA Y0 s.heap.size)) (hsc : zLaw b L xs s Y0) {nf : Nat} {kb28 : Nat → Nat → Nat → Nat → Int32 → zSp → zS → Prop} (hkb28 : ∀ (t1 : Nat) (t2 : Nat) (t3 : Nat) (t4 : Nat) (v5 : Int32) (Y : zY) (σ : zS) (cl sl : Nat), kb28 t1 t2 t3 t4 v5 (zsp Y) σ → zext Y0 Y → zT Y 11 t1 → zT Y 12 t2 → zT Y 24 t3 → zT Y 25 t4 → cl + (nf * 50 + 0) ≤ 601024 → sl + (nf * 7356 + 0) ≤ 7293034 → WW E Y σ p l e room_1 s m #[Value.ref b] below meth c (zA Y0 s.heap.size) 9 cl sl (lw_Z below #[Value.ref b] s) [(0, .ref b), (1, .ref (za Y t1)), (2, .ref (za Y t2)), (3, .ref (za Y t3)), (4, .ref (za Y t4)), (5, .int v5)] 28 []) : ∀ (t1 : Nat) (t2 : Nat) (t3 : Nat) (t4 : Nat) (v5 : Int32) (Y : zY) (σ : zS) (cl sl : Nat), wL_law_1767 L xs kb28 t1 t2 t3 t4 v5 (zsp Y) σ → zext Y0 Y → zT Y 11 t1 → zT Y 12 t2 → zT Y 24 t3 → zT Y 25 t4 → cl + (0 + (nf * 50 + 0)) ≤ 601024 → sl + (0 + (nf * 7356 + 0)) ≤ 7293034 → WW E Y σ p l e room_1 s m #[Value.ref b] below meth c (zA Y0 s.heap.size) 9 cl sl (lw_Z below #[Value.ref b] s) [(0, .ref b), (1, .ref (za Y t1)), (2, .ref (za Y t2)), (3, .ref (za Y t3)), (4, .ref (za Y t4)), (5, .int v5)] 1767 [] := by
  intro t1 t2 t3 t4 v5 Y σ cl sl hw hx h1 h2 h3 h4 hcl hsl
  unfold wL_law_1767 at hw
  refine z_aload_n hG dL_law_1767 rfl 1 rfl ?_
  refine z_calli hG (z_runV (As := []) (st := []) hG k_L_276 (MX11_eventCount l h1 hw) ⟨(Nat.le_of_ble_eq_true rfl), (Nat.le_of_ble_eq_true rfl)⟩ h1 (T := TX11) (N := 9) rfl (by decide) rfl (Nat.le_of_ble_eq_true rfl) dL_law_1768 ⟨show cl + 0 + 0 ≤ 601024 from by omega, show sl + 0 + 0 ≤ 7293034 from by omega⟩ rfl) (fun r2 σ1 hw => ?_)
  refine z_aload_n hG dL_law_1771 rfl 2 rfl ?_
  refine z_calli hG (z_runV (As := []) (st := [.int r2]) hG k_L_279 (MX12_eventCount l h2 hw) ⟨(Nat.le_of_ble_eq_true rfl), (Nat.le_of_ble_eq_true rfl)⟩ h2 (T := TX12) (N := 23) rfl (by decide) rfl (Nat.le_of_ble_eq_true rfl) dL_law_1772 ⟨show cl + 0 + 0 ≤ 601024 from by omega, show sl + 0 + 0 ≤ 7293034 from by omega⟩ rfl) (fun r4 σ3 hw => ?_)
  refine z_icmp_eq (tgt := 2768) hG dL_law_1775 (by decide) (fun c5 => ?_) (fun c5 => ?_)
  · have hw := hw.1 c5
    refine zpick [0, 1, 2, 3, 4, 5] (lv' := [(0, .ref b), (1, .ref (za Y t1)), (2, .ref (za Y t2)), (3, .ref (za Y t3)), (4, .ref (za Y t4)), (5, .int v5)]) rfl ?_
    exact BL_law_2768 hlt hG hsc hkb28 t1 t2 t3 t4 v5 Y σ3 _ _ hw hx h1 h2 h3 h4 (by omega) (by omega)
  · have hw := hw.2 c5
    refine z_iconst (v := 0) hG dL_law_1778 (by decide) ?_
    exact hw.elim
set_option maxRecDepth 100000 in
set_option maxHeartbeats 4000000 in
theorem BL_law_1780 {l : Launch} (hlt : l.stackTraces = false) {E : zE} {Y0 : zY} {p : Program} {e : Env} {s : State} {m : MethodId} {b L : Nat} {xs : Nat → Int32} {below : List Frame} {meth : Method} {c : Code} (hG : zG E p l s m #[Value.ref b] meth c cL_law 9 RL (some .boolean) (zA Y0 s.heap.size)) (hsc : zLaw b L xs s Y0) {nf : Nat} {kb28 : Nat → Nat → Nat → Nat → Int32 → zSp → zS → Prop} (hkb28 : ∀ (t1 : Nat) (t2 : Nat) (t3 : Nat) (t4 : Nat) (v5 : Int32) (Y : zY) (σ : zS) (cl sl : Nat), kb28 t1 t2 t3 t4 v5 (zsp Y) σ → zext Y0 Y → zT Y 11 t1 → zT Y 12 t2 → zT Y 24 t3 → zT Y 25 t4 → cl + (nf * 50 + 0) ≤ 601024 → sl + (nf * 7356 + 0) ≤ 7293034 → WW E Y σ p l e room_1 s m #[Value.ref b] below meth c (zA Y0 s.heap.size) 9 cl sl (lw_Z below #[Value.ref b] s) [(0, .ref b), (1, .ref (za Y t1)), (2, .ref (za Y t2)), (3, .ref (za Y t3)), (4, .ref (za Y t4)), (5, .int v5)] 28 []) : ∀ (t1 : Nat) (t2 : Nat) (t3 : Nat) (t4 : Nat) (v5 : Int32) (Y : zY) (σ : zS) (cl sl : Nat), wL_law_1780 L xs kb28 t1 t2 t3 t4 v5 (zsp Y) σ → zext Y0 Y → zT Y 11 t1 → zT Y 12 t2 → zT Y 24 t3 → zT Y 25 t4 → cl + (1 + (nf * 50 + 0)) ≤ 601024 → sl + (6 + (nf * 7356 + 0)) ≤ 7293034 → WW E Y σ p l e room_1 s m #[Value.ref b] below meth c (zA Y0 s.heap.size) 9 cl sl (lw_Z below #[Value.ref b] s) [(0, .ref b), (1, .ref (za Y t1)), (2, .ref (za Y t2)), (3, .ref (za Y t3)), (4, .ref (za Y t4)), (5, .int v5)] 1780 [] := by
  intro t1 t2 t3 t4 v5 Y σ cl sl hw hx h1 h2 h3 h4 hcl hsl
  unfold wL_law_1780 at hw
  refine z_aload_n hG dL_law_1780 rfl 1 rfl ?_
  refine z_aload_n hG dL_law_1781 rfl 0 rfl ?_
  refine z_iload hG dL_law_1782 5 rfl ?_
  refine z_iconst (v := 1) hG dL_law_1784 (by decide) ?_
  refine z_iadd hG dL_law_1785 ?_
  refine z_topi (fun x1 ex1 => ?_)
  have hw := hw x1 ex1
  obtain ⟨q2, hw⟩ := hw
  refine z_lawld hG hsc q2 dL_law_1786 ?_
  refine z_aload_n hG dL_law_1787 rfl 0 rfl ?_
  refine z_iload hG dL_law_1788 5 rfl ?_
  refine z_iconst (v := 2) hG dL_law_1790 (by decide) ?_
  refine z_iadd hG dL_law_1791 ?_
  refine z_topi (fun x3 ex3 => ?_)
  have hw := hw x3 ex3
  obtain ⟨q4, hw⟩ := hw
  refine z_lawld hG hsc q4 dL_law_1792 ?_
  refine z_aload_n hG dL_law_1793 rfl 3 rfl ?_
  obtain ⟨x5, ex5⟩ : ∃ y : Int32, y = xs x3.toNatClampNeg := ⟨_, rfl⟩
  refine zst (st' := [.ref (za Y t3), .int x5, .int (xs x1.toNatClampNeg), .ref (za Y t1)]) (by rw [ex5] <;> rfl) ?_
  have hw := hw x5 ex5
  obtain ⟨x6, ex6⟩ : ∃ y : Int32, y = xs x1.toNatClampNeg := ⟨_, rfl⟩
  refine zst (st' := [.ref (za Y t3), .int x5, .int x6, .ref (za Y t1)]) (by rw [ex6] <;> rfl) ?_
  have hw := hw x6 ex6
  refine z_callCi hG (z_runSH (As := [.ref (za Y t1), .int x6, .int x5, .ref (za Y t3)]) (st := []) hG k_L_280 (ML_event l hlt h1 h3 hw) ⟨(Nat.le_of_ble_eq_true rfl), (Nat.le_of_ble_eq_true rfl)⟩ rfl (Nat.le_of_ble_eq_true rfl) dL_law_1794 ⟨show cl + 0 + 1 ≤ 601024 from by omega, show sl + 0 + 6 ≤ 7293034 from by omega⟩ rfl) (fun r8 σ7 hw => ?_)
  refine zwiden (k := cl + 1) (n := sl + 6) (show cl + 0 + 1 ≤ cl + 1 from by omega) (show sl + 0 + 6 ≤ sl + 6 from by omega) ?_
  refine z_istore (lv' := [(6, .int r8), (0, .ref b), (1, .ref (za Y t1)), (2, .ref (za Y t2)), (3, .ref (za Y t3)), (4, .ref (za Y t4)), (5, .int v5)]) hG dL_law_1797 (by decide) rfl ?_
  refine z_aload_n hG dL_law_1799 rfl 3 rfl ?_
  refine z_aload_n hG dL_law_1800 rfl 1 rfl ?_
  refine z_iload hG dL_law_1801 6 rfl ?_
  refine z_iconst (v := 1) hG dL_law_1803 (by decide) ?_
  refine z_iadd hG dL_law_1804 ?_
  refine z_topi (fun x9 ex9 => ?_)
  have hw := hw x9 ex9
  obtain ⟨q10, hw⟩ := hw
  refine z_lawld hG hsc q10 dL_law_1805 ?_
  refine z_aload_n hG dL_law_1806 rfl 1 rfl ?_
  refine z_iload hG dL_law_1807 6 rfl ?_
  refine z_iconst (v := 2) hG dL_law_1809 (by decide) ?_
  refine z_iadd hG dL_law_1810 ?_
  refine z_topi (fun x11 ex11 => ?_)
  have hw := hw x11 ex11
  obtain ⟨q12, hw⟩ := hw
  refine z_lawld hG hsc q12 dL_law_1811 ?_
  refine z_topi (fun x13 ex13 => ?_)
  have hw := hw x13 ex13
  obtain ⟨x14, ex14⟩ : ∃ y : Int32, y = xs x9.toNatClampNeg := ⟨_, rfl⟩
  refine zst (st' := [.int x13, .int x14, .ref (za Y t2)]) (by rw [ex14] <;> rfl) ?_
  have hw := hw x14 ex14
  refine z_calli hG (z_runV (As := [.int x14, .int x13]) (st := []) hG k_L_282 (MX12_event l h2 hw) ⟨(Nat.le_of_ble_eq_true rfl), (Nat.le_of_ble_eq_true rfl)⟩ h2 (T := TX12) (N := 23) rfl (by decide) rfl (Nat.le_of_ble_eq_true rfl) dL_law_1812 ⟨show cl + 1 + 0 ≤ 601024 from by omega, show sl + 6 + 0 ≤ 7293034 from by omega⟩ rfl) (fun r16 σ15 hw => ?_)
  refine z_istore (lv' := [(7, .int r16), (6, .int r8), (0, .ref b), (1, .ref (za Y t1)), (2, .ref (za Y t2)), (3, .ref (za Y t3)), (4, .ref (za Y t4)), (5, .int v5)]) hG dL_law_1815 (by decide) rfl ?_
  refine z_aload_n hG dL_law_1817 rfl 4 rfl ?_
  refine z_calli hG (z_runV (As := []) (st := []) hG k_L_149 (MX12_thrown l h2 hw) ⟨(Nat.le_of_ble_eq_true rfl), (Nat.le_of_ble_eq_true rfl)⟩ h2 (T := TX12) (N := 23) rfl (by decide) rfl (Nat.le_of_ble_eq_true rfl) dL_law_1818 ⟨show cl + 1 + 0 ≤ 601024 from by omega, show sl + 6 + 0 ≤ 7293034 from by omega⟩ rfl) (fun r18 σ17 hw => ?_)
  refine z_iload hG dL_law_1821 1 rfl ?_
  refine z_icmp_eq (tgt := 1828) hG dL_law_1823 (by decide) (fun c22 => ?_) (fun c22 => ?_)
  · have hw := hw.1 c22
    refine z_iload hG dL_law_1828 1 rfl ?_
    refine z_if_ne (tgt := 1845) hG dL_law_1830 (by decide) (fun c21 => ?_) (fun c21 => ?_)
    · have hw := hw.2 c21
      refine z_goto (tgt := 2768) hG dL_law_1845 (by decide) ?_
      refine zpick [2, 3, 4, 5, 6, 7] (lv' := [(0, .ref b), (1, .ref (za Y t1)), (2, .ref (za Y t2)), (3, .ref (za Y t3)), (4, .ref (za Y t4)), (5, .int v5)]) rfl ?_
      refine zwiden (k := cl + 1) (n := sl + 6) (by omega) (by omega) ?_
      exact BL_law_2768 hlt hG hsc hkb28 t1 t2 t3 t4 v5 Y σ17 _ _ hw hx h1 h2 h3 h4 (by omega) (by omega)
    · have hw := hw.1 c21
      refine z_aload_n hG dL_law_1833 rfl 5 rfl ?_
      refine z_iconst (v := 0) hG dL_law_1834 (by decide) ?_
      obtain ⟨q19, hw⟩ := hw
      refine z_lald hG h3 q19 dL_law_1835 ?_
      refine z_iload hG dL_law_1836 0 rfl ?_
      refine z_i2l hG dL_law_1838 ?_
      refine z_lcmp hG dL_law_1839 ?_
      refine z_if_eq (tgt := 1845) hG dL_law_1840 (by decide) (fun c20 => ?_) (fun c20 => ?_)
      · have hw := hw.1 c20
        refine z_goto (tgt := 2768) hG dL_law_1845 (by decide) ?_
        refine zpick [2, 3, 4, 5, 6, 7] (lv' := [(0, .ref b), (1, .ref (za Y t1)), (2, .ref (za Y t2)), (3, .ref (za Y t3)), (4, .ref (za Y t4)), (5, .int v5)]) rfl ?_
        refine zwiden (k := cl + 1) (n := sl + 6) (by omega) (by omega) ?_
        exact BL_law_2768 hlt hG hsc hkb28 t1 t2 t3 t4 v5 Y σ17 _ _ hw hx h1 h2 h3 h4 (by omega) (by omega)
      · have hw := hw.2 c20
        refine z_iconst (v := 0) hG dL_law_1843 (by decide) ?_
        exact hw.elim
  · have hw := hw.2 c22
    refine z_iconst (v := 0) hG dL_law_1826 (by decide) ?_
    exact hw.elim
set_option maxRecDepth 100000 in
set_option maxHeartbeats 4000000 in
theorem BL_law_1848 {l : Launch} (hlt : l.stackTraces = false) {E : zE} {Y0 : zY} {p : Program} {e : Env} {s : State} {m : MethodId} {b L : Nat} {xs : Nat → Int32} {below : List Frame} {meth : Method} {c : Code} (hG : zG E p l s m #[Value.ref b] meth c cL_law 9 RL (some .boolean) (zA Y0 s.heap.size)) (hsc : zLaw b L xs s Y0) {nf : Nat} {kb28 : Nat → Nat → Nat → Nat → Int32 → zSp → zS → Prop} (hkb28 : ∀ (t1 : Nat) (t2 : Nat) (t3 : Nat) (t4 : Nat) (v5 : Int32) (Y : zY) (σ : zS) (cl sl : Nat), kb28 t1 t2 t3 t4 v5 (zsp Y) σ → zext Y0 Y → zT Y 11 t1 → zT Y 12 t2 → zT Y 24 t3 → zT Y 25 t4 → cl + (nf * 50 + 0) ≤ 601024 → sl + (nf * 7356 + 0) ≤ 7293034 → WW E Y σ p l e room_1 s m #[Value.ref b] below meth c (zA Y0 s.heap.size) 9 cl sl (lw_Z below #[Value.ref b] s) [(0, .ref b), (1, .ref (za Y t1)), (2, .ref (za Y t2)), (3, .ref (za Y t3)), (4, .ref (za Y t4)), (5, .int v5)] 28 []) : ∀ (t1 : Nat) (t2 : Nat) (t3 : Nat) (t4 : Nat) (v5 : Int32) (Y : zY) (σ : zS) (cl sl : Nat), wL_law_1848 L xs kb28 t1 t2 t3 t4 v5 (zsp Y) σ → zext Y0 Y → zT Y 11 t1 → zT Y 12 t2 → zT Y 24 t3 → zT Y 25 t4 → cl + (2 + (nf * 50 + 0)) ≤ 601024 → sl + (12 + (nf * 7356 + 0)) ≤ 7293034 → WW E Y σ p l e room_1 s m #[Value.ref b] below meth c (zA Y0 s.heap.size) 9 cl sl (lw_Z below #[Value.ref b] s) [(0, .ref b), (1, .ref (za Y t1)), (2, .ref (za Y t2)), (3, .ref (za Y t3)), (4, .ref (za Y t4)), (5, .int v5)] 1848 [] := by
  intro t1 t2 t3 t4 v5 Y σ cl sl hw hx h1 h2 h3 h4 hcl hsl
  unfold wL_law_1848 at hw
  refine z_aload_n hG dL_law_1848 rfl 1 rfl ?_
  refine z_aload_n hG dL_law_1849 rfl 0 rfl ?_
  refine z_iload hG dL_law_1850 5 rfl ?_
  refine z_iconst (v := 1) hG dL_law_1852 (by decide) ?_
  refine z_iadd hG dL_law_1853 ?_
  refine z_topi (fun x1 ex1 => ?_)
  have hw := hw x1 ex1
  obtain ⟨q2, hw⟩ := hw
  refine z_lawld hG hsc q2 dL_law_1854 ?_
  refine z_aload_n hG dL_law_1855 rfl 3 rfl ?_
  obtain ⟨x3, ex3⟩ : ∃ y : Int32, y = xs x1.toNatClampNeg := ⟨_, rfl⟩
  refine zst (st' := [.ref (za Y t3), .int x3, .ref (za Y t1)]) (by rw [ex3] <;> rfl) ?_
  have hw := hw x3 ex3
  refine z_callCi hG (z_runSH (As := [.ref (za Y t1), .int x3, .ref (za Y t3)]) (st := []) hG k_L_283 (ML_run l hlt h1 h3 hw) ⟨(Nat.le_of_ble_eq_true rfl), (Nat.le_of_ble_eq_true rfl)⟩ rfl (Nat.le_of_ble_eq_true rfl) dL_law_1856 ⟨show cl + 0 + 2 ≤ 601024 from by omega, show sl + 0 + 12 ≤ 7293034 from by omega⟩ rfl) (fun r5 σ4 hw => ?_)
  refine zwiden (k := cl + 2) (n := sl + 12) (show cl + 0 + 2 ≤ cl + 2 from by omega) (show sl + 0 + 12 ≤ sl + 12 from by omega) ?_
  refine z_istore (lv' := [(6, .int r5), (0, .ref b), (1, .ref (za Y t1)), (2, .ref (za Y t2)), (3, .ref (za Y t3)), (4, .ref (za Y t4)), (5, .int v5)]) hG dL_law_1859 (by decide) rfl ?_
  refine z_aload_n hG dL_law_1861 rfl 3 rfl ?_
  refine z_aload_n hG dL_law_1862 rfl 1 rfl ?_
  refine z_iload hG dL_law_1863 6 rfl ?_
  refine z_iconst (v := 1) hG dL_law_1865 (by decide) ?_
  refine z_iadd hG dL_law_1866 ?_
  refine z_topi (fun x6 ex6 => ?_)
  have hw := hw x6 ex6
  obtain ⟨q7, hw⟩ := hw
  refine z_lawld hG hsc q7 dL_law_1867 ?_
  refine z_topi (fun x8 ex8 => ?_)
  have hw := hw x8 ex8
  refine z_calli hG (z_runV (As := [.int x8]) (st := []) hG k_L_285 (MX12_run l h2 hw) ⟨(Nat.le_of_ble_eq_true rfl), (Nat.le_of_ble_eq_true rfl)⟩ h2 (T := TX12) (N := 23) rfl (by decide) rfl (Nat.le_of_ble_eq_true rfl) dL_law_1868 ⟨show cl + 2 + 0 ≤ 601024 from by omega, show sl + 12 + 0 ≤ 7293034 from by omega⟩ rfl) (fun r10 σ9 hw => ?_)
  refine z_istore (lv' := [(7, .int r10), (6, .int r5), (0, .ref b), (1, .ref (za Y t1)), (2, .ref (za Y t2)), (3, .ref (za Y t3)), (4, .ref (za Y t4)), (5, .int v5)]) hG dL_law_1871 (by decide) rfl ?_
  refine z_aload_n hG dL_law_1873 rfl 4 rfl ?_
  refine z_calli hG (z_runV (As := []) (st := []) hG k_L_149 (MX12_thrown l h2 hw) ⟨(Nat.le_of_ble_eq_true rfl), (Nat.le_of_ble_eq_true rfl)⟩ h2 (T := TX12) (N := 23) rfl (by decide) rfl (Nat.le_of_ble_eq_true rfl) dL_law_1874 ⟨show cl + 2 + 0 ≤ 601024 from by omega, show sl + 12 + 0 ≤ 7293034 from by omega⟩ rfl) (fun r12 σ11 hw => ?_)
  refine z_iload hG dL_law_1877 1 rfl ?_
  refine z_icmp_eq (tgt := 1884) hG dL_law_1879 (by decide) (fun c16 => ?_) (fun c16 => ?_)
  · have hw := hw.1 c16
    refine z_iload hG dL_law_1884 1 rfl ?_
    refine z_if_ne (tgt := 1901) hG dL_law_1886 (by decide) (fun c15 => ?_) (fun c15 => ?_)
    · have hw := hw.2 c15
      refine z_goto (tgt := 2768) hG dL_law_1901 (by decide) ?_
      refine zpick [2, 3, 4, 5, 6, 7] (lv' := [(0, .ref b), (1, .ref (za Y t1)), (2, .ref (za Y t2)), (3, .ref (za Y t3)), (4, .ref (za Y t4)), (5, .int v5)]) rfl ?_
      refine zwiden (k := cl + 2) (n := sl + 12) (by omega) (by omega) ?_
      exact BL_law_2768 hlt hG hsc hkb28 t1 t2 t3 t4 v5 Y σ11 _ _ hw hx h1 h2 h3 h4 (by omega) (by omega)
    · have hw := hw.1 c15
      refine z_aload_n hG dL_law_1889 rfl 5 rfl ?_
      refine z_iconst (v := 0) hG dL_law_1890 (by decide) ?_
      obtain ⟨q13, hw⟩ := hw
      refine z_lald hG h3 q13 dL_law_1891 ?_
      refine z_iload hG dL_law_1892 0 rfl ?_
      refine z_i2l hG dL_law_1894 ?_
      refine z_lcmp hG dL_law_1895 ?_
      refine z_if_eq (tgt := 1901) hG dL_law_1896 (by decide) (fun c14 => ?_) (fun c14 => ?_)
      · have hw := hw.1 c14
        refine z_goto (tgt := 2768) hG dL_law_1901 (by decide) ?_
        refine zpick [2, 3, 4, 5, 6, 7] (lv' := [(0, .ref b), (1, .ref (za Y t1)), (2, .ref (za Y t2)), (3, .ref (za Y t3)), (4, .ref (za Y t4)), (5, .int v5)]) rfl ?_
        refine zwiden (k := cl + 2) (n := sl + 12) (by omega) (by omega) ?_
        exact BL_law_2768 hlt hG hsc hkb28 t1 t2 t3 t4 v5 Y σ11 _ _ hw hx h1 h2 h3 h4 (by omega) (by omega)
      · have hw := hw.2 c14
        refine z_iconst (v := 0) hG dL_law_1899 (by decide) ?_
        exact hw.elim
  · have hw := hw.2 c16
    refine z_iconst (v := 0) hG dL_law_1882 (by decide) ?_
    exact hw.elim
set_option maxRecDepth 100000 in
set_option maxHeartbeats 4000000 in
theorem BL_law_1904 {l : Launch} (hlt : l.stackTraces = false) {E : zE} {Y0 : zY} {p : Program} {e : Env} {s : State} {m : MethodId} {b L : Nat} {xs : Nat → Int32} {below : List Frame} {meth : Method} {c : Code} (hG : zG E p l s m #[Value.ref b] meth c cL_law 9 RL (some .boolean) (zA Y0 s.heap.size)) (hsc : zLaw b L xs s Y0) {nf : Nat} {kb28 : Nat → Nat → Nat → Nat → Int32 → zSp → zS → Prop} (hkb28 : ∀ (t1 : Nat) (t2 : Nat) (t3 : Nat) (t4 : Nat) (v5 : Int32) (Y : zY) (σ : zS) (cl sl : Nat), kb28 t1 t2 t3 t4 v5 (zsp Y) σ → zext Y0 Y → zT Y 11 t1 → zT Y 12 t2 → zT Y 24 t3 → zT Y 25 t4 → cl + (nf * 50 + 0) ≤ 601024 → sl + (nf * 7356 + 0) ≤ 7293034 → WW E Y σ p l e room_1 s m #[Value.ref b] below meth c (zA Y0 s.heap.size) 9 cl sl (lw_Z below #[Value.ref b] s) [(0, .ref b), (1, .ref (za Y t1)), (2, .ref (za Y t2)), (3, .ref (za Y t3)), (4, .ref (za Y t4)), (5, .int v5)] 28 []) : ∀ (t1 : Nat) (t2 : Nat) (t3 : Nat) (t4 : Nat) (v5 : Int32) (Y : zY) (σ : zS) (cl sl : Nat), wL_law_1904 L xs kb28 t1 t2 t3 t4 v5 (zsp Y) σ → zext Y0 Y → zT Y 11 t1 → zT Y 12 t2 → zT Y 24 t3 → zT Y 25 t4 → cl + (2 + (nf * 50 + 0)) ≤ 601024 → sl + (12 + (nf * 7356 + 0)) ≤ 7293034 → WW E Y σ p l e room_1 s m #[Value.ref b] below meth c (zA Y0 s.heap.size) 9 cl sl (lw_Z below #[Value.ref b] s) [(0, .ref b), (1, .ref (za Y t1)), (2, .ref (za Y t2)), (3, .ref (za Y t3)), (4, .ref (za Y t4)), (5, .int v5)] 1904 [] := by
  intro t1 t2 t3 t4 v5 Y σ cl sl hw hx h1 h2 h3 h4 hcl hsl
  unfold wL_law_1904 at hw
  refine z_aload_n hG dL_law_1904 rfl 1 rfl ?_
  refine z_aload_n hG dL_law_1905 rfl 0 rfl ?_
  refine z_iload hG dL_law_1906 5 rfl ?_
  refine z_iconst (v := 1) hG dL_law_1908 (by decide) ?_
  refine z_iadd hG dL_law_1909 ?_
  refine z_topi (fun x1 ex1 => ?_)
  have hw := hw x1 ex1
  obtain ⟨q2, hw⟩ := hw
  refine z_lawld hG hsc q2 dL_law_1910 ?_
  refine z_aload_n hG dL_law_1911 rfl 3 rfl ?_
  obtain ⟨x3, ex3⟩ : ∃ y : Int32, y = xs x1.toNatClampNeg := ⟨_, rfl⟩
  refine zst (st' := [.ref (za Y t3), .int x3, .ref (za Y t1)]) (by rw [ex3] <;> rfl) ?_
  have hw := hw x3 ex3
  refine z_callCi hG (z_runSH (As := [.ref (za Y t1), .int x3, .ref (za Y t3)]) (st := []) hG k_L_286 (ML_runUntilDone l hlt h1 h3 hw) ⟨(Nat.le_of_ble_eq_true rfl), (Nat.le_of_ble_eq_true rfl)⟩ rfl (Nat.le_of_ble_eq_true rfl) dL_law_1912 ⟨show cl + 0 + 2 ≤ 601024 from by omega, show sl + 0 + 12 ≤ 7293034 from by omega⟩ rfl) (fun r5 σ4 hw => ?_)
  refine zwiden (k := cl + 2) (n := sl + 12) (show cl + 0 + 2 ≤ cl + 2 from by omega) (show sl + 0 + 12 ≤ sl + 12 from by omega) ?_
  refine z_istore (lv' := [(6, .int r5), (0, .ref b), (1, .ref (za Y t1)), (2, .ref (za Y t2)), (3, .ref (za Y t3)), (4, .ref (za Y t4)), (5, .int v5)]) hG dL_law_1915 (by decide) rfl ?_
  refine z_aload_n hG dL_law_1917 rfl 3 rfl ?_
  refine z_aload_n hG dL_law_1918 rfl 1 rfl ?_
  refine z_iload hG dL_law_1919 6 rfl ?_
  refine z_iconst (v := 1) hG dL_law_1921 (by decide) ?_
  refine z_iadd hG dL_law_1922 ?_
  refine z_topi (fun x6 ex6 => ?_)
  have hw := hw x6 ex6
  obtain ⟨q7, hw⟩ := hw
  refine z_lawld hG hsc q7 dL_law_1923 ?_
  refine z_topi (fun x8 ex8 => ?_)
  have hw := hw x8 ex8
  refine z_calli hG (z_runV (As := [.int x8]) (st := []) hG k_L_288 (MX12_runUntilDone l h2 hw) ⟨(Nat.le_of_ble_eq_true rfl), (Nat.le_of_ble_eq_true rfl)⟩ h2 (T := TX12) (N := 23) rfl (by decide) rfl (Nat.le_of_ble_eq_true rfl) dL_law_1924 ⟨show cl + 2 + 0 ≤ 601024 from by omega, show sl + 12 + 0 ≤ 7293034 from by omega⟩ rfl) (fun r10 σ9 hw => ?_)
  refine z_istore (lv' := [(7, .int r10), (6, .int r5), (0, .ref b), (1, .ref (za Y t1)), (2, .ref (za Y t2)), (3, .ref (za Y t3)), (4, .ref (za Y t4)), (5, .int v5)]) hG dL_law_1927 (by decide) rfl ?_
  refine z_aload_n hG dL_law_1929 rfl 4 rfl ?_
  refine z_calli hG (z_runV (As := []) (st := []) hG k_L_149 (MX12_thrown l h2 hw) ⟨(Nat.le_of_ble_eq_true rfl), (Nat.le_of_ble_eq_true rfl)⟩ h2 (T := TX12) (N := 23) rfl (by decide) rfl (Nat.le_of_ble_eq_true rfl) dL_law_1930 ⟨show cl + 2 + 0 ≤ 601024 from by omega, show sl + 12 + 0 ≤ 7293034 from by omega⟩ rfl) (fun r12 σ11 hw => ?_)
  refine z_iload hG dL_law_1933 1 rfl ?_
  refine z_icmp_eq (tgt := 1940) hG dL_law_1935 (by decide) (fun c16 => ?_) (fun c16 => ?_)
  · have hw := hw.1 c16
    refine z_iload hG dL_law_1940 1 rfl ?_
    refine z_if_ne (tgt := 1957) hG dL_law_1942 (by decide) (fun c15 => ?_) (fun c15 => ?_)
    · have hw := hw.2 c15
      refine z_goto (tgt := 2768) hG dL_law_1957 (by decide) ?_
      refine zpick [2, 3, 4, 5, 6, 7] (lv' := [(0, .ref b), (1, .ref (za Y t1)), (2, .ref (za Y t2)), (3, .ref (za Y t3)), (4, .ref (za Y t4)), (5, .int v5)]) rfl ?_
      refine zwiden (k := cl + 2) (n := sl + 12) (by omega) (by omega) ?_
      exact BL_law_2768 hlt hG hsc hkb28 t1 t2 t3 t4 v5 Y σ11 _ _ hw hx h1 h2 h3 h4 (by omega) (by omega)
    · have hw := hw.1 c15
      refine z_aload_n hG dL_law_1945 rfl 5 rfl ?_
      refine z_iconst (v := 0) hG dL_law_1946 (by decide) ?_
      obtain ⟨q13, hw⟩ := hw
      refine z_lald hG h3 q13 dL_law_1947 ?_
      refine z_iload hG dL_law_1948 0 rfl ?_
      refine z_i2l hG dL_law_1950 ?_
      refine z_lcmp hG dL_law_1951 ?_
      refine z_if_eq (tgt := 1957) hG dL_law_1952 (by decide) (fun c14 => ?_) (fun c14 => ?_)
      · have hw := hw.1 c14
        refine z_goto (tgt := 2768) hG dL_law_1957 (by decide) ?_
        refine zpick [2, 3, 4, 5, 6, 7] (lv' := [(0, .ref b), (1, .ref (za Y t1)), (2, .ref (za Y t2)), (3, .ref (za Y t3)), (4, .ref (za Y t4)), (5, .int v5)]) rfl ?_
        refine zwiden (k := cl + 2) (n := sl + 12) (by omega) (by omega) ?_
        exact BL_law_2768 hlt hG hsc hkb28 t1 t2 t3 t4 v5 Y σ11 _ _ hw hx h1 h2 h3 h4 (by omega) (by omega)
      · have hw := hw.2 c14
        refine z_iconst (v := 0) hG dL_law_1955 (by decide) ?_
        exact hw.elim
  · have hw := hw.2 c16
    refine z_iconst (v := 0) hG dL_law_1938 (by decide) ?_
    exact hw.elim
set_option maxRecDepth 100000 in
set_option maxHeartbeats 4000000 in
theorem BL_law_1960 {l : Launch} (hlt : l.stackTraces = false) {E : zE} {Y0 : zY} {p : Program} {e : Env} {s : State} {m : MethodId} {b L : Nat} {xs : Nat → Int32} {below : List Frame} {meth : Method} {c : Code} (hG : zG E p l s m #[Value.ref b] meth c cL_law 9 RL (some .boolean) (zA Y0 s.heap.size)) (hsc : zLaw b L xs s Y0) {nf : Nat} {kb28 : Nat → Nat → Nat → Nat → Int32 → zSp → zS → Prop} (hkb28 : ∀ (t1 : Nat) (t2 : Nat) (t3 : Nat) (t4 : Nat) (v5 : Int32) (Y : zY) (σ : zS) (cl sl : Nat), kb28 t1 t2 t3 t4 v5 (zsp Y) σ → zext Y0 Y → zT Y 11 t1 → zT Y 12 t2 → zT Y 24 t3 → zT Y 25 t4 → cl + (nf * 50 + 0) ≤ 601024 → sl + (nf * 7356 + 0) ≤ 7293034 → WW E Y σ p l e room_1 s m #[Value.ref b] below meth c (zA Y0 s.heap.size) 9 cl sl (lw_Z below #[Value.ref b] s) [(0, .ref b), (1, .ref (za Y t1)), (2, .ref (za Y t2)), (3, .ref (za Y t3)), (4, .ref (za Y t4)), (5, .int v5)] 28 []) : ∀ (t1 : Nat) (t2 : Nat) (t3 : Nat) (t4 : Nat) (v5 : Int32) (Y : zY) (σ : zS) (cl sl : Nat), wL_law_1960 L xs kb28 t1 t2 t3 t4 v5 (zsp Y) σ → zext Y0 Y → zT Y 11 t1 → zT Y 12 t2 → zT Y 24 t3 → zT Y 25 t4 → cl + (3 + (nf * 50 + 0)) ≤ 601024 → sl + (18 + (nf * 7356 + 0)) ≤ 7293034 → WW E Y σ p l e room_1 s m #[Value.ref b] below meth c (zA Y0 s.heap.size) 9 cl sl (lw_Z below #[Value.ref b] s) [(0, .ref b), (1, .ref (za Y t1)), (2, .ref (za Y t2)), (3, .ref (za Y t3)), (4, .ref (za Y t4)), (5, .int v5)] 1960 [] := by
  intro t1 t2 t3 t4 v5 Y σ cl sl hw hx h1 h2 h3 h4 hcl hsl
  unfold wL_law_1960 at hw
  refine z_aload_n hG dL_law_1960 rfl 1 rfl ?_
  refine z_aload_n hG dL_law_1961 rfl 0 rfl ?_
  refine z_iload hG dL_law_1962 5 rfl ?_
  refine z_iconst (v := 1) hG dL_law_1964 (by decide) ?_
  refine z_iadd hG dL_law_1965 ?_
  refine z_topi (fun x1 ex1 => ?_)
  have hw := hw x1 ex1
  obtain ⟨q2, hw⟩ := hw
  refine z_lawld hG hsc q2 dL_law_1966 ?_
  refine z_aload_n hG dL_law_1967 rfl 3 rfl ?_
  obtain ⟨x3, ex3⟩ : ∃ y : Int32, y = xs x1.toNatClampNeg := ⟨_, rfl⟩
  refine zst (st' := [.ref (za Y t3), .int x3, .ref (za Y t1)]) (by rw [ex3] <;> rfl) ?_
  have hw := hw x3 ex3
  refine z_callCi hG (z_runSH (As := [.ref (za Y t1), .int x3, .ref (za Y t3)]) (st := []) hG k_L_289 (ML_start l hlt h1 h3 hw) ⟨(Nat.le_of_ble_eq_true rfl), (Nat.le_of_ble_eq_true rfl)⟩ rfl (Nat.le_of_ble_eq_true rfl) dL_law_1968 ⟨show cl + 0 + 3 ≤ 601024 from by omega, show sl + 0 + 18 ≤ 7293034 from by omega⟩ rfl) (fun r5 σ4 hw => ?_)
  refine zwiden (k := cl + 3) (n := sl + 18) (show cl + 0 + 3 ≤ cl + 3 from by omega) (show sl + 0 + 18 ≤ sl + 18 from by omega) ?_
  refine z_istore (lv' := [(6, .int r5), (0, .ref b), (1, .ref (za Y t1)), (2, .ref (za Y t2)), (3, .ref (za Y t3)), (4, .ref (za Y t4)), (5, .int v5)]) hG dL_law_1971 (by decide) rfl ?_
  refine z_aload_n hG dL_law_1973 rfl 3 rfl ?_
  refine z_aload_n hG dL_law_1974 rfl 1 rfl ?_
  refine z_iload hG dL_law_1975 6 rfl ?_
  refine z_iconst (v := 1) hG dL_law_1977 (by decide) ?_
  refine z_iadd hG dL_law_1978 ?_
  refine z_topi (fun x6 ex6 => ?_)
  have hw := hw x6 ex6
  obtain ⟨q7, hw⟩ := hw
  refine z_lawld hG hsc q7 dL_law_1979 ?_
  refine z_topi (fun x8 ex8 => ?_)
  have hw := hw x8 ex8
  refine z_calli hG (z_runV (As := [.int x8]) (st := []) hG k_L_291 (MX12_start l h2 hw) ⟨(Nat.le_of_ble_eq_true rfl), (Nat.le_of_ble_eq_true rfl)⟩ h2 (T := TX12) (N := 23) rfl (by decide) rfl (Nat.le_of_ble_eq_true rfl) dL_law_1980 ⟨show cl + 3 + 0 ≤ 601024 from by omega, show sl + 18 + 0 ≤ 7293034 from by omega⟩ rfl) (fun r10 σ9 hw => ?_)
  refine z_istore (lv' := [(7, .int r10), (6, .int r5), (0, .ref b), (1, .ref (za Y t1)), (2, .ref (za Y t2)), (3, .ref (za Y t3)), (4, .ref (za Y t4)), (5, .int v5)]) hG dL_law_1983 (by decide) rfl ?_
  refine z_aload_n hG dL_law_1985 rfl 4 rfl ?_
  refine z_calli hG (z_runV (As := []) (st := []) hG k_L_149 (MX12_thrown l h2 hw) ⟨(Nat.le_of_ble_eq_true rfl), (Nat.le_of_ble_eq_true rfl)⟩ h2 (T := TX12) (N := 23) rfl (by decide) rfl (Nat.le_of_ble_eq_true rfl) dL_law_1986 ⟨show cl + 3 + 0 ≤ 601024 from by omega, show sl + 18 + 0 ≤ 7293034 from by omega⟩ rfl) (fun r12 σ11 hw => ?_)
  refine z_iload hG dL_law_1989 1 rfl ?_
  refine z_icmp_eq (tgt := 1996) hG dL_law_1991 (by decide) (fun c16 => ?_) (fun c16 => ?_)
  · have hw := hw.1 c16
    refine z_iload hG dL_law_1996 1 rfl ?_
    refine z_if_ne (tgt := 2013) hG dL_law_1998 (by decide) (fun c15 => ?_) (fun c15 => ?_)
    · have hw := hw.2 c15
      refine z_goto (tgt := 2768) hG dL_law_2013 (by decide) ?_
      refine zpick [2, 3, 4, 5, 6, 7] (lv' := [(0, .ref b), (1, .ref (za Y t1)), (2, .ref (za Y t2)), (3, .ref (za Y t3)), (4, .ref (za Y t4)), (5, .int v5)]) rfl ?_
      refine zwiden (k := cl + 3) (n := sl + 18) (by omega) (by omega) ?_
      exact BL_law_2768 hlt hG hsc hkb28 t1 t2 t3 t4 v5 Y σ11 _ _ hw hx h1 h2 h3 h4 (by omega) (by omega)
    · have hw := hw.1 c15
      refine z_aload_n hG dL_law_2001 rfl 5 rfl ?_
      refine z_iconst (v := 0) hG dL_law_2002 (by decide) ?_
      obtain ⟨q13, hw⟩ := hw
      refine z_lald hG h3 q13 dL_law_2003 ?_
      refine z_iload hG dL_law_2004 0 rfl ?_
      refine z_i2l hG dL_law_2006 ?_
      refine z_lcmp hG dL_law_2007 ?_
      refine z_if_eq (tgt := 2013) hG dL_law_2008 (by decide) (fun c14 => ?_) (fun c14 => ?_)
      · have hw := hw.1 c14
        refine z_goto (tgt := 2768) hG dL_law_2013 (by decide) ?_
        refine zpick [2, 3, 4, 5, 6, 7] (lv' := [(0, .ref b), (1, .ref (za Y t1)), (2, .ref (za Y t2)), (3, .ref (za Y t3)), (4, .ref (za Y t4)), (5, .int v5)]) rfl ?_
        refine zwiden (k := cl + 3) (n := sl + 18) (by omega) (by omega) ?_
        exact BL_law_2768 hlt hG hsc hkb28 t1 t2 t3 t4 v5 Y σ11 _ _ hw hx h1 h2 h3 h4 (by omega) (by omega)
      · have hw := hw.2 c14
        refine z_iconst (v := 0) hG dL_law_2011 (by decide) ?_
        exact hw.elim
  · have hw := hw.2 c16
    refine z_iconst (v := 0) hG dL_law_1994 (by decide) ?_
    exact hw.elim
set_option maxRecDepth 100000 in
set_option maxHeartbeats 4000000 in
theorem BL_law_2016 {l : Launch} (hlt : l.stackTraces = false) {E : zE} {Y0 : zY} {p : Program} {e : Env} {s : State} {m : MethodId} {b L : Nat} {xs : Nat → Int32} {below : List Frame} {meth : Method} {c : Code} (hG : zG E p l s m #[Value.ref b] meth c cL_law 9 RL (some .boolean) (zA Y0 s.heap.size)) (hsc : zLaw b L xs s Y0) {nf : Nat} {kb28 : Nat → Nat → Nat → Nat → Int32 → zSp → zS → Prop} (hkb28 : ∀ (t1 : Nat) (t2 : Nat) (t3 : Nat) (t4 : Nat) (v5 : Int32) (Y : zY) (σ : zS) (cl sl : Nat), kb28 t1 t2 t3 t4 v5 (zsp Y) σ → zext Y0 Y → zT Y 11 t1 → zT Y 12 t2 → zT Y 24 t3 → zT Y 25 t4 → cl + (nf * 50 + 0) ≤ 601024 → sl + (nf * 7356 + 0) ≤ 7293034 → WW E Y σ p l e room_1 s m #[Value.ref b] below meth c (zA Y0 s.heap.size) 9 cl sl (lw_Z below #[Value.ref b] s) [(0, .ref b), (1, .ref (za Y t1)), (2, .ref (za Y t2)), (3, .ref (za Y t3)), (4, .ref (za Y t4)), (5, .int v5)] 28 []) : ∀ (t1 : Nat) (t2 : Nat) (t3 : Nat) (t4 : Nat) (v5 : Int32) (Y : zY) (σ : zS) (cl sl : Nat), wL_law_2016 L xs kb28 t1 t2 t3 t4 v5 (zsp Y) σ → zext Y0 Y → zT Y 11 t1 → zT Y 12 t2 → zT Y 24 t3 → zT Y 25 t4 → cl + (1 + (nf * 50 + 0)) ≤ 601024 → sl + (6 + (nf * 7356 + 0)) ≤ 7293034 → WW E Y σ p l e room_1 s m #[Value.ref b] below meth c (zA Y0 s.heap.size) 9 cl sl (lw_Z below #[Value.ref b] s) [(0, .ref b), (1, .ref (za Y t1)), (2, .ref (za Y t2)), (3, .ref (za Y t3)), (4, .ref (za Y t4)), (5, .int v5)] 2016 [] := by
  intro t1 t2 t3 t4 v5 Y σ cl sl hw hx h1 h2 h3 h4 hcl hsl
  unfold wL_law_2016 at hw
  refine z_aload_n hG dL_law_2016 rfl 1 rfl ?_
  refine z_aload_n hG dL_law_2017 rfl 3 rfl ?_
  refine z_callCi hG (z_runSH (As := [.ref (za Y t1), .ref (za Y t3)]) (st := []) hG k_L_292 (ML_breakIn l hlt h1 h3 hw) ⟨(Nat.le_of_ble_eq_true rfl), (Nat.le_of_ble_eq_true rfl)⟩ rfl (Nat.le_of_ble_eq_true rfl) dL_law_2018 ⟨show cl + 0 + 1 ≤ 601024 from by omega, show sl + 0 + 6 ≤ 7293034 from by omega⟩ rfl) (fun r2 σ1 hw => ?_)
  refine zwiden (k := cl + 1) (n := sl + 6) (show cl + 0 + 1 ≤ cl + 1 from by omega) (show sl + 0 + 6 ≤ sl + 6 from by omega) ?_
  refine z_istore (lv' := [(6, .int r2), (0, .ref b), (1, .ref (za Y t1)), (2, .ref (za Y t2)), (3, .ref (za Y t3)), (4, .ref (za Y t4)), (5, .int v5)]) hG dL_law_2021 (by decide) rfl ?_
  refine z_aload_n hG dL_law_2023 rfl 3 rfl ?_
  refine z_calli hG (z_runV (As := []) (st := []) hG k_L_294 (MX12_breakIn l h2 hw) ⟨(Nat.le_of_ble_eq_true rfl), (Nat.le_of_ble_eq_true rfl)⟩ h2 (T := TX12) (N := 23) rfl (by decide) rfl (Nat.le_of_ble_eq_true rfl) dL_law_2024 ⟨show cl + 1 + 0 ≤ 601024 from by omega, show sl + 6 + 0 ≤ 7293034 from by omega⟩ rfl) (fun r4 σ3 hw => ?_)
  refine z_istore (lv' := [(7, .int r4), (6, .int r2), (0, .ref b), (1, .ref (za Y t1)), (2, .ref (za Y t2)), (3, .ref (za Y t3)), (4, .ref (za Y t4)), (5, .int v5)]) hG dL_law_2027 (by decide) rfl ?_
  refine z_aload_n hG dL_law_2029 rfl 4 rfl ?_
  refine z_calli hG (z_runV (As := []) (st := []) hG k_L_149 (MX12_thrown l h2 hw) ⟨(Nat.le_of_ble_eq_true rfl), (Nat.le_of_ble_eq_true rfl)⟩ h2 (T := TX12) (N := 23) rfl (by decide) rfl (Nat.le_of_ble_eq_true rfl) dL_law_2030 ⟨show cl + 1 + 0 ≤ 601024 from by omega, show sl + 6 + 0 ≤ 7293034 from by omega⟩ rfl) (fun r6 σ5 hw => ?_)
  refine z_iload hG dL_law_2033 1 rfl ?_
  refine z_icmp_eq (tgt := 2040) hG dL_law_2035 (by decide) (fun c10 => ?_) (fun c10 => ?_)
  · have hw := hw.1 c10
    refine z_iload hG dL_law_2040 1 rfl ?_
    refine z_if_ne (tgt := 2057) hG dL_law_2042 (by decide) (fun c9 => ?_) (fun c9 => ?_)
    · have hw := hw.2 c9
      refine z_goto (tgt := 2768) hG dL_law_2057 (by decide) ?_
      refine zpick [2, 3, 4, 5, 6, 7] (lv' := [(0, .ref b), (1, .ref (za Y t1)), (2, .ref (za Y t2)), (3, .ref (za Y t3)), (4, .ref (za Y t4)), (5, .int v5)]) rfl ?_
      refine zwiden (k := cl + 1) (n := sl + 6) (by omega) (by omega) ?_
      exact BL_law_2768 hlt hG hsc hkb28 t1 t2 t3 t4 v5 Y σ5 _ _ hw hx h1 h2 h3 h4 (by omega) (by omega)
    · have hw := hw.1 c9
      refine z_aload_n hG dL_law_2045 rfl 5 rfl ?_
      refine z_iconst (v := 0) hG dL_law_2046 (by decide) ?_
      obtain ⟨q7, hw⟩ := hw
      refine z_lald hG h3 q7 dL_law_2047 ?_
      refine z_iload hG dL_law_2048 0 rfl ?_
      refine z_i2l hG dL_law_2050 ?_
      refine z_lcmp hG dL_law_2051 ?_
      refine z_if_eq (tgt := 2057) hG dL_law_2052 (by decide) (fun c8 => ?_) (fun c8 => ?_)
      · have hw := hw.1 c8
        refine z_goto (tgt := 2768) hG dL_law_2057 (by decide) ?_
        refine zpick [2, 3, 4, 5, 6, 7] (lv' := [(0, .ref b), (1, .ref (za Y t1)), (2, .ref (za Y t2)), (3, .ref (za Y t3)), (4, .ref (za Y t4)), (5, .int v5)]) rfl ?_
        refine zwiden (k := cl + 1) (n := sl + 6) (by omega) (by omega) ?_
        exact BL_law_2768 hlt hG hsc hkb28 t1 t2 t3 t4 v5 Y σ5 _ _ hw hx h1 h2 h3 h4 (by omega) (by omega)
      · have hw := hw.2 c8
        refine z_iconst (v := 0) hG dL_law_2055 (by decide) ?_
        exact hw.elim
  · have hw := hw.2 c10
    refine z_iconst (v := 0) hG dL_law_2038 (by decide) ?_
    exact hw.elim
set_option maxRecDepth 100000 in
set_option maxHeartbeats 4000000 in
theorem BL_law_2060 {l : Launch} (hlt : l.stackTraces = false) {E : zE} {Y0 : zY} {p : Program} {e : Env} {s : State} {m : MethodId} {b L : Nat} {xs : Nat → Int32} {below : List Frame} {meth : Method} {c : Code} (hG : zG E p l s m #[Value.ref b] meth c cL_law 9 RL (some .boolean) (zA Y0 s.heap.size)) (hsc : zLaw b L xs s Y0) {nf : Nat} {kb28 : Nat → Nat → Nat → Nat → Int32 → zSp → zS → Prop} (hkb28 : ∀ (t1 : Nat) (t2 : Nat) (t3 : Nat) (t4 : Nat) (v5 : Int32) (Y : zY) (σ : zS) (cl sl : Nat), kb28 t1 t2 t3 t4 v5 (zsp Y) σ → zext Y0 Y → zT Y 11 t1 → zT Y 12 t2 → zT Y 24 t3 → zT Y 25 t4 → cl + (nf * 50 + 0) ≤ 601024 → sl + (nf * 7356 + 0) ≤ 7293034 → WW E Y σ p l e room_1 s m #[Value.ref b] below meth c (zA Y0 s.heap.size) 9 cl sl (lw_Z below #[Value.ref b] s) [(0, .ref b), (1, .ref (za Y t1)), (2, .ref (za Y t2)), (3, .ref (za Y t3)), (4, .ref (za Y t4)), (5, .int v5)] 28 []) : ∀ (t1 : Nat) (t2 : Nat) (t3 : Nat) (t4 : Nat) (v5 : Int32) (Y : zY) (σ : zS) (cl sl : Nat), wL_law_2060 L xs kb28 t1 t2 t3 t4 v5 (zsp Y) σ → zext Y0 Y → zT Y 11 t1 → zT Y 12 t2 → zT Y 24 t3 → zT Y 25 t4 → cl + (2 + (nf * 50 + 0)) ≤ 601024 → sl + (12 + (nf * 7356 + 0)) ≤ 7293034 → WW E Y σ p l e room_1 s m #[Value.ref b] below meth c (zA Y0 s.heap.size) 9 cl sl (lw_Z below #[Value.ref b] s) [(0, .ref b), (1, .ref (za Y t1)), (2, .ref (za Y t2)), (3, .ref (za Y t3)), (4, .ref (za Y t4)), (5, .int v5)] 2060 [] := by
  intro t1 t2 t3 t4 v5 Y σ cl sl hw hx h1 h2 h3 h4 hcl hsl
  unfold wL_law_2060 at hw
  refine z_aload_n hG dL_law_2060 rfl 1 rfl ?_
  refine z_aload_n hG dL_law_2061 rfl 0 rfl ?_
  refine z_iload hG dL_law_2062 5 rfl ?_
  refine z_iconst (v := 1) hG dL_law_2064 (by decide) ?_
  refine z_iadd hG dL_law_2065 ?_
  refine z_topi (fun x1 ex1 => ?_)
  have hw := hw x1 ex1
  obtain ⟨q2, hw⟩ := hw
  refine z_lawld hG hsc q2 dL_law_2066 ?_
  refine z_aload_n hG dL_law_2067 rfl 0 rfl ?_
  refine z_iload hG dL_law_2068 5 rfl ?_
  refine z_iconst (v := 2) hG dL_law_2070 (by decide) ?_
  refine z_iadd hG dL_law_2071 ?_
  refine z_topi (fun x3 ex3 => ?_)
  have hw := hw x3 ex3
  obtain ⟨q4, hw⟩ := hw
  refine z_lawld hG hsc q4 dL_law_2072 ?_
  refine z_aload_n hG dL_law_2073 rfl 3 rfl ?_
  obtain ⟨x5, ex5⟩ : ∃ y : Int32, y = xs x3.toNatClampNeg := ⟨_, rfl⟩
  refine zst (st' := [.ref (za Y t3), .int x5, .int (xs x1.toNatClampNeg), .ref (za Y t1)]) (by rw [ex5] <;> rfl) ?_
  have hw := hw x5 ex5
  obtain ⟨x6, ex6⟩ : ∃ y : Int32, y = xs x1.toNatClampNeg := ⟨_, rfl⟩
  refine zst (st' := [.ref (za Y t3), .int x5, .int x6, .ref (za Y t1)]) (by rw [ex6] <;> rfl) ?_
  have hw := hw x6 ex6
  refine z_callCi hG (z_runSH (As := [.ref (za Y t1), .int x6, .int x5, .ref (za Y t3)]) (st := []) hG k_L_295 (ML_setRate l hlt h1 h3 hw) ⟨(Nat.le_of_ble_eq_true rfl), (Nat.le_of_ble_eq_true rfl)⟩ rfl (Nat.le_of_ble_eq_true rfl) dL_law_2074 ⟨show cl + 0 + 2 ≤ 601024 from by omega, show sl + 0 + 12 ≤ 7293034 from by omega⟩ rfl) (fun r8 σ7 hw => ?_)
  refine zwiden (k := cl + 2) (n := sl + 12) (show cl + 0 + 2 ≤ cl + 2 from by omega) (show sl + 0 + 12 ≤ sl + 12 from by omega) ?_
  refine z_istore (lv' := [(6, .int r8), (0, .ref b), (1, .ref (za Y t1)), (2, .ref (za Y t2)), (3, .ref (za Y t3)), (4, .ref (za Y t4)), (5, .int v5)]) hG dL_law_2077 (by decide) rfl ?_
  refine z_aload_n hG dL_law_2079 rfl 3 rfl ?_
  refine z_aload_n hG dL_law_2080 rfl 1 rfl ?_
  refine z_iload hG dL_law_2081 6 rfl ?_
  refine z_iconst (v := 1) hG dL_law_2083 (by decide) ?_
  refine z_iadd hG dL_law_2084 ?_
  refine z_topi (fun x9 ex9 => ?_)
  have hw := hw x9 ex9
  obtain ⟨q10, hw⟩ := hw
  refine z_lawld hG hsc q10 dL_law_2085 ?_
  refine z_aload_n hG dL_law_2086 rfl 1 rfl ?_
  refine z_iload hG dL_law_2087 6 rfl ?_
  refine z_iconst (v := 2) hG dL_law_2089 (by decide) ?_
  refine z_iadd hG dL_law_2090 ?_
  refine z_topi (fun x11 ex11 => ?_)
  have hw := hw x11 ex11
  obtain ⟨q12, hw⟩ := hw
  refine z_lawld hG hsc q12 dL_law_2091 ?_
  refine z_topi (fun x13 ex13 => ?_)
  have hw := hw x13 ex13
  obtain ⟨x14, ex14⟩ : ∃ y : Int32, y = xs x9.toNatClampNeg := ⟨_, rfl⟩
  refine zst (st' := [.int x13, .int x14, .ref (za Y t2)]) (by rw [ex14] <;> rfl) ?_
  have hw := hw x14 ex14
  refine z_calli hG (z_runV (As := [.int x14, .int x13]) (st := []) hG k_L_297 (MX12_setRate l h2 hw) ⟨(Nat.le_of_ble_eq_true rfl), (Nat.le_of_ble_eq_true rfl)⟩ h2 (T := TX12) (N := 23) rfl (by decide) rfl (Nat.le_of_ble_eq_true rfl) dL_law_2092 ⟨show cl + 2 + 0 ≤ 601024 from by omega, show sl + 12 + 0 ≤ 7293034 from by omega⟩ rfl) (fun r16 σ15 hw => ?_)
  refine z_istore (lv' := [(7, .int r16), (6, .int r8), (0, .ref b), (1, .ref (za Y t1)), (2, .ref (za Y t2)), (3, .ref (za Y t3)), (4, .ref (za Y t4)), (5, .int v5)]) hG dL_law_2095 (by decide) rfl ?_
  refine z_aload_n hG dL_law_2097 rfl 4 rfl ?_
  refine z_calli hG (z_runV (As := []) (st := []) hG k_L_149 (MX12_thrown l h2 hw) ⟨(Nat.le_of_ble_eq_true rfl), (Nat.le_of_ble_eq_true rfl)⟩ h2 (T := TX12) (N := 23) rfl (by decide) rfl (Nat.le_of_ble_eq_true rfl) dL_law_2098 ⟨show cl + 2 + 0 ≤ 601024 from by omega, show sl + 12 + 0 ≤ 7293034 from by omega⟩ rfl) (fun r18 σ17 hw => ?_)
  refine z_iload hG dL_law_2101 1 rfl ?_
  refine z_icmp_eq (tgt := 2108) hG dL_law_2103 (by decide) (fun c22 => ?_) (fun c22 => ?_)
  · have hw := hw.1 c22
    refine z_iload hG dL_law_2108 1 rfl ?_
    refine z_if_ne (tgt := 2125) hG dL_law_2110 (by decide) (fun c21 => ?_) (fun c21 => ?_)
    · have hw := hw.2 c21
      refine z_goto (tgt := 2768) hG dL_law_2125 (by decide) ?_
      refine zpick [2, 3, 4, 5, 6, 7] (lv' := [(0, .ref b), (1, .ref (za Y t1)), (2, .ref (za Y t2)), (3, .ref (za Y t3)), (4, .ref (za Y t4)), (5, .int v5)]) rfl ?_
      refine zwiden (k := cl + 2) (n := sl + 12) (by omega) (by omega) ?_
      exact BL_law_2768 hlt hG hsc hkb28 t1 t2 t3 t4 v5 Y σ17 _ _ hw hx h1 h2 h3 h4 (by omega) (by omega)
    · have hw := hw.1 c21
      refine z_aload_n hG dL_law_2113 rfl 5 rfl ?_
      refine z_iconst (v := 0) hG dL_law_2114 (by decide) ?_
      obtain ⟨q19, hw⟩ := hw
      refine z_lald hG h3 q19 dL_law_2115 ?_
      refine z_iload hG dL_law_2116 0 rfl ?_
      refine z_i2l hG dL_law_2118 ?_
      refine z_lcmp hG dL_law_2119 ?_
      refine z_if_eq (tgt := 2125) hG dL_law_2120 (by decide) (fun c20 => ?_) (fun c20 => ?_)
      · have hw := hw.1 c20
        refine z_goto (tgt := 2768) hG dL_law_2125 (by decide) ?_
        refine zpick [2, 3, 4, 5, 6, 7] (lv' := [(0, .ref b), (1, .ref (za Y t1)), (2, .ref (za Y t2)), (3, .ref (za Y t3)), (4, .ref (za Y t4)), (5, .int v5)]) rfl ?_
        refine zwiden (k := cl + 2) (n := sl + 12) (by omega) (by omega) ?_
        exact BL_law_2768 hlt hG hsc hkb28 t1 t2 t3 t4 v5 Y σ17 _ _ hw hx h1 h2 h3 h4 (by omega) (by omega)
      · have hw := hw.2 c20
        refine z_iconst (v := 0) hG dL_law_2123 (by decide) ?_
        exact hw.elim
  · have hw := hw.2 c22
    refine z_iconst (v := 0) hG dL_law_2106 (by decide) ?_
    exact hw.elim
set_option maxRecDepth 100000 in
set_option maxHeartbeats 4000000 in
theorem BL_law_2128 {l : Launch} (hlt : l.stackTraces = false) {E : zE} {Y0 : zY} {p : Program} {e : Env} {s : State} {m : MethodId} {b L : Nat} {xs : Nat → Int32} {below : List Frame} {meth : Method} {c : Code} (hG : zG E p l s m #[Value.ref b] meth c cL_law 9 RL (some .boolean) (zA Y0 s.heap.size)) (hsc : zLaw b L xs s Y0) {nf : Nat} {kb28 : Nat → Nat → Nat → Nat → Int32 → zSp → zS → Prop} (hkb28 : ∀ (t1 : Nat) (t2 : Nat) (t3 : Nat) (t4 : Nat) (v5 : Int32) (Y : zY) (σ : zS) (cl sl : Nat), kb28 t1 t2 t3 t4 v5 (zsp Y) σ → zext Y0 Y → zT Y 11 t1 → zT Y 12 t2 → zT Y 24 t3 → zT Y 25 t4 → cl + (nf * 50 + 0) ≤ 601024 → sl + (nf * 7356 + 0) ≤ 7293034 → WW E Y σ p l e room_1 s m #[Value.ref b] below meth c (zA Y0 s.heap.size) 9 cl sl (lw_Z below #[Value.ref b] s) [(0, .ref b), (1, .ref (za Y t1)), (2, .ref (za Y t2)), (3, .ref (za Y t3)), (4, .ref (za Y t4)), (5, .int v5)] 28 []) : ∀ (t1 : Nat) (t2 : Nat) (t3 : Nat) (t4 : Nat) (v5 : Int32) (Y : zY) (σ : zS) (cl sl : Nat), wL_law_2128 L xs kb28 t1 t2 t3 t4 v5 (zsp Y) σ → zext Y0 Y → zT Y 11 t1 → zT Y 12 t2 → zT Y 24 t3 → zT Y 25 t4 → cl + (2 + (nf * 50 + 0)) ≤ 601024 → sl + (12 + (nf * 7356 + 0)) ≤ 7293034 → WW E Y σ p l e room_1 s m #[Value.ref b] below meth c (zA Y0 s.heap.size) 9 cl sl (lw_Z below #[Value.ref b] s) [(0, .ref b), (1, .ref (za Y t1)), (2, .ref (za Y t2)), (3, .ref (za Y t3)), (4, .ref (za Y t4)), (5, .int v5)] 2128 [] := by
  intro t1 t2 t3 t4 v5 Y σ cl sl hw hx h1 h2 h3 h4 hcl hsl
  unfold wL_law_2128 at hw
  refine z_aload_n hG dL_law_2128 rfl 1 rfl ?_
  refine z_aload_n hG dL_law_2129 rfl 0 rfl ?_
  refine z_iload hG dL_law_2130 5 rfl ?_
  refine z_iconst (v := 1) hG dL_law_2132 (by decide) ?_
  refine z_iadd hG dL_law_2133 ?_
  refine z_topi (fun x1 ex1 => ?_)
  have hw := hw x1 ex1
  obtain ⟨q2, hw⟩ := hw
  refine z_lawld hG hsc q2 dL_law_2134 ?_
  refine z_aload_n hG dL_law_2135 rfl 0 rfl ?_
  refine z_iload hG dL_law_2136 5 rfl ?_
  refine z_iconst (v := 2) hG dL_law_2138 (by decide) ?_
  refine z_iadd hG dL_law_2139 ?_
  refine z_topi (fun x3 ex3 => ?_)
  have hw := hw x3 ex3
  obtain ⟨q4, hw⟩ := hw
  refine z_lawld hG hsc q4 dL_law_2140 ?_
  refine z_aload_n hG dL_law_2141 rfl 3 rfl ?_
  obtain ⟨x5, ex5⟩ : ∃ y : Int32, y = xs x3.toNatClampNeg := ⟨_, rfl⟩
  refine zst (st' := [.ref (za Y t3), .int x5, .int (xs x1.toNatClampNeg), .ref (za Y t1)]) (by rw [ex5] <;> rfl) ?_
  have hw := hw x5 ex5
  obtain ⟨x6, ex6⟩ : ∃ y : Int32, y = xs x1.toNatClampNeg := ⟨_, rfl⟩
  refine zst (st' := [.ref (za Y t3), .int x5, .int x6, .ref (za Y t1)]) (by rw [ex6] <;> rfl) ?_
  have hw := hw x6 ex6
  refine z_callCi hG (z_runSH (As := [.ref (za Y t1), .int x6, .int x5, .ref (za Y t3)]) (st := []) hG k_L_298 (ML_nudge l hlt h1 h3 hw) ⟨(Nat.le_of_ble_eq_true rfl), (Nat.le_of_ble_eq_true rfl)⟩ rfl (Nat.le_of_ble_eq_true rfl) dL_law_2142 ⟨show cl + 0 + 2 ≤ 601024 from by omega, show sl + 0 + 12 ≤ 7293034 from by omega⟩ rfl) (fun r8 σ7 hw => ?_)
  refine zwiden (k := cl + 2) (n := sl + 12) (show cl + 0 + 2 ≤ cl + 2 from by omega) (show sl + 0 + 12 ≤ sl + 12 from by omega) ?_
  refine z_istore (lv' := [(6, .int r8), (0, .ref b), (1, .ref (za Y t1)), (2, .ref (za Y t2)), (3, .ref (za Y t3)), (4, .ref (za Y t4)), (5, .int v5)]) hG dL_law_2145 (by decide) rfl ?_
  refine z_aload_n hG dL_law_2147 rfl 3 rfl ?_
  refine z_aload_n hG dL_law_2148 rfl 1 rfl ?_
  refine z_iload hG dL_law_2149 6 rfl ?_
  refine z_iconst (v := 1) hG dL_law_2151 (by decide) ?_
  refine z_iadd hG dL_law_2152 ?_
  refine z_topi (fun x9 ex9 => ?_)
  have hw := hw x9 ex9
  obtain ⟨q10, hw⟩ := hw
  refine z_lawld hG hsc q10 dL_law_2153 ?_
  refine z_aload_n hG dL_law_2154 rfl 1 rfl ?_
  refine z_iload hG dL_law_2155 6 rfl ?_
  refine z_iconst (v := 2) hG dL_law_2157 (by decide) ?_
  refine z_iadd hG dL_law_2158 ?_
  refine z_topi (fun x11 ex11 => ?_)
  have hw := hw x11 ex11
  obtain ⟨q12, hw⟩ := hw
  refine z_lawld hG hsc q12 dL_law_2159 ?_
  refine z_topi (fun x13 ex13 => ?_)
  have hw := hw x13 ex13
  obtain ⟨x14, ex14⟩ : ∃ y : Int32, y = xs x9.toNatClampNeg := ⟨_, rfl⟩
  refine zst (st' := [.int x13, .int x14, .ref (za Y t2)]) (by rw [ex14] <;> rfl) ?_
  have hw := hw x14 ex14
  refine z_calli hG (z_runV (As := [.int x14, .int x13]) (st := []) hG k_L_300 (MX12_nudge l h2 hw) ⟨(Nat.le_of_ble_eq_true rfl), (Nat.le_of_ble_eq_true rfl)⟩ h2 (T := TX12) (N := 23) rfl (by decide) rfl (Nat.le_of_ble_eq_true rfl) dL_law_2160 ⟨show cl + 2 + 0 ≤ 601024 from by omega, show sl + 12 + 0 ≤ 7293034 from by omega⟩ rfl) (fun r16 σ15 hw => ?_)
  refine z_istore (lv' := [(7, .int r16), (6, .int r8), (0, .ref b), (1, .ref (za Y t1)), (2, .ref (za Y t2)), (3, .ref (za Y t3)), (4, .ref (za Y t4)), (5, .int v5)]) hG dL_law_2163 (by decide) rfl ?_
  refine z_aload_n hG dL_law_2165 rfl 4 rfl ?_
  refine z_calli hG (z_runV (As := []) (st := []) hG k_L_149 (MX12_thrown l h2 hw) ⟨(Nat.le_of_ble_eq_true rfl), (Nat.le_of_ble_eq_true rfl)⟩ h2 (T := TX12) (N := 23) rfl (by decide) rfl (Nat.le_of_ble_eq_true rfl) dL_law_2166 ⟨show cl + 2 + 0 ≤ 601024 from by omega, show sl + 12 + 0 ≤ 7293034 from by omega⟩ rfl) (fun r18 σ17 hw => ?_)
  refine z_iload hG dL_law_2169 1 rfl ?_
  refine z_icmp_eq (tgt := 2176) hG dL_law_2171 (by decide) (fun c22 => ?_) (fun c22 => ?_)
  · have hw := hw.1 c22
    refine z_iload hG dL_law_2176 1 rfl ?_
    refine z_if_ne (tgt := 2193) hG dL_law_2178 (by decide) (fun c21 => ?_) (fun c21 => ?_)
    · have hw := hw.2 c21
      refine z_goto (tgt := 2768) hG dL_law_2193 (by decide) ?_
      refine zpick [2, 3, 4, 5, 6, 7] (lv' := [(0, .ref b), (1, .ref (za Y t1)), (2, .ref (za Y t2)), (3, .ref (za Y t3)), (4, .ref (za Y t4)), (5, .int v5)]) rfl ?_
      refine zwiden (k := cl + 2) (n := sl + 12) (by omega) (by omega) ?_
      exact BL_law_2768 hlt hG hsc hkb28 t1 t2 t3 t4 v5 Y σ17 _ _ hw hx h1 h2 h3 h4 (by omega) (by omega)
    · have hw := hw.1 c21
      refine z_aload_n hG dL_law_2181 rfl 5 rfl ?_
      refine z_iconst (v := 0) hG dL_law_2182 (by decide) ?_
      obtain ⟨q19, hw⟩ := hw
      refine z_lald hG h3 q19 dL_law_2183 ?_
      refine z_iload hG dL_law_2184 0 rfl ?_
      refine z_i2l hG dL_law_2186 ?_
      refine z_lcmp hG dL_law_2187 ?_
      refine z_if_eq (tgt := 2193) hG dL_law_2188 (by decide) (fun c20 => ?_) (fun c20 => ?_)
      · have hw := hw.1 c20
        refine z_goto (tgt := 2768) hG dL_law_2193 (by decide) ?_
        refine zpick [2, 3, 4, 5, 6, 7] (lv' := [(0, .ref b), (1, .ref (za Y t1)), (2, .ref (za Y t2)), (3, .ref (za Y t3)), (4, .ref (za Y t4)), (5, .int v5)]) rfl ?_
        refine zwiden (k := cl + 2) (n := sl + 12) (by omega) (by omega) ?_
        exact BL_law_2768 hlt hG hsc hkb28 t1 t2 t3 t4 v5 Y σ17 _ _ hw hx h1 h2 h3 h4 (by omega) (by omega)
      · have hw := hw.2 c20
        refine z_iconst (v := 0) hG dL_law_2191 (by decide) ?_
        exact hw.elim
  · have hw := hw.2 c22
    refine z_iconst (v := 0) hG dL_law_2174 (by decide) ?_
    exact hw.elim
set_option maxRecDepth 100000 in
set_option maxHeartbeats 4000000 in
theorem BL_law_2196 {l : Launch} (hlt : l.stackTraces = false) {E : zE} {Y0 : zY} {p : Program} {e : Env} {s : State} {m : MethodId} {b L : Nat} {xs : Nat → Int32} {below : List Frame} {meth : Method} {c : Code} (hG : zG E p l s m #[Value.ref b] meth c cL_law 9 RL (some .boolean) (zA Y0 s.heap.size)) (hsc : zLaw b L xs s Y0) {nf : Nat} {kb28 : Nat → Nat → Nat → Nat → Int32 → zSp → zS → Prop} (hkb28 : ∀ (t1 : Nat) (t2 : Nat) (t3 : Nat) (t4 : Nat) (v5 : Int32) (Y : zY) (σ : zS) (cl sl : Nat), kb28 t1 t2 t3 t4 v5 (zsp Y) σ → zext Y0 Y → zT Y 11 t1 → zT Y 12 t2 → zT Y 24 t3 → zT Y 25 t4 → cl + (nf * 50 + 0) ≤ 601024 → sl + (nf * 7356 + 0) ≤ 7293034 → WW E Y σ p l e room_1 s m #[Value.ref b] below meth c (zA Y0 s.heap.size) 9 cl sl (lw_Z below #[Value.ref b] s) [(0, .ref b), (1, .ref (za Y t1)), (2, .ref (za Y t2)), (3, .ref (za Y t3)), (4, .ref (za Y t4)), (5, .int v5)] 28 []) : ∀ (t1 : Nat) (t2 : Nat) (t3 : Nat) (t4 : Nat) (v5 : Int32) (Y : zY) (σ : zS) (cl sl : Nat), wL_law_2196 L xs kb28 t1 t2 t3 t4 v5 (zsp Y) σ → zext Y0 Y → zT Y 11 t1 → zT Y 12 t2 → zT Y 24 t3 → zT Y 25 t4 → cl + (1 + (nf * 50 + 0)) ≤ 601024 → sl + (6 + (nf * 7356 + 0)) ≤ 7293034 → WW E Y σ p l e room_1 s m #[Value.ref b] below meth c (zA Y0 s.heap.size) 9 cl sl (lw_Z below #[Value.ref b] s) [(0, .ref b), (1, .ref (za Y t1)), (2, .ref (za Y t2)), (3, .ref (za Y t3)), (4, .ref (za Y t4)), (5, .int v5)] 2196 [] := by
  intro t1 t2 t3 t4 v5 Y σ cl sl hw hx h1 h2 h3 h4 hcl hsl
  unfold wL_law_2196 at hw
  refine z_aload_n hG dL_law_2196 rfl 1 rfl ?_
  refine z_aload_n hG dL_law_2197 rfl 0 rfl ?_
  refine z_iload hG dL_law_2198 5 rfl ?_
  refine z_iconst (v := 1) hG dL_law_2200 (by decide) ?_
  refine z_iadd hG dL_law_2201 ?_
  refine z_topi (fun x1 ex1 => ?_)
  have hw := hw x1 ex1
  obtain ⟨q2, hw⟩ := hw
  refine z_lawld hG hsc q2 dL_law_2202 ?_
  refine z_aload_n hG dL_law_2203 rfl 3 rfl ?_
  obtain ⟨x3, ex3⟩ : ∃ y : Int32, y = xs x1.toNatClampNeg := ⟨_, rfl⟩
  refine zst (st' := [.ref (za Y t3), .int x3, .ref (za Y t1)]) (by rw [ex3] <;> rfl) ?_
  have hw := hw x3 ex3
  refine z_callCi hG (z_runSH (As := [.ref (za Y t1), .int x3, .ref (za Y t3)]) (st := []) hG k_L_301 (ML_setCorrection l hlt h1 h3 hw) ⟨(Nat.le_of_ble_eq_true rfl), (Nat.le_of_ble_eq_true rfl)⟩ rfl (Nat.le_of_ble_eq_true rfl) dL_law_2204 ⟨show cl + 0 + 1 ≤ 601024 from by omega, show sl + 0 + 6 ≤ 7293034 from by omega⟩ rfl) (fun r5 σ4 hw => ?_)
  refine zwiden (k := cl + 1) (n := sl + 6) (show cl + 0 + 1 ≤ cl + 1 from by omega) (show sl + 0 + 6 ≤ sl + 6 from by omega) ?_
  refine z_istore (lv' := [(6, .int r5), (0, .ref b), (1, .ref (za Y t1)), (2, .ref (za Y t2)), (3, .ref (za Y t3)), (4, .ref (za Y t4)), (5, .int v5)]) hG dL_law_2207 (by decide) rfl ?_
  refine z_aload_n hG dL_law_2209 rfl 3 rfl ?_
  refine z_aload_n hG dL_law_2210 rfl 1 rfl ?_
  refine z_iload hG dL_law_2211 6 rfl ?_
  refine z_iconst (v := 1) hG dL_law_2213 (by decide) ?_
  refine z_iadd hG dL_law_2214 ?_
  refine z_topi (fun x6 ex6 => ?_)
  have hw := hw x6 ex6
  obtain ⟨q7, hw⟩ := hw
  refine z_lawld hG hsc q7 dL_law_2215 ?_
  refine z_topi (fun x8 ex8 => ?_)
  have hw := hw x8 ex8
  refine z_calli hG (z_runV (As := [.int x8]) (st := []) hG k_L_303 (MX12_setCorrection l h2 hw) ⟨(Nat.le_of_ble_eq_true rfl), (Nat.le_of_ble_eq_true rfl)⟩ h2 (T := TX12) (N := 23) rfl (by decide) rfl (Nat.le_of_ble_eq_true rfl) dL_law_2216 ⟨show cl + 1 + 0 ≤ 601024 from by omega, show sl + 6 + 0 ≤ 7293034 from by omega⟩ rfl) (fun r10 σ9 hw => ?_)
  refine z_istore (lv' := [(7, .int r10), (6, .int r5), (0, .ref b), (1, .ref (za Y t1)), (2, .ref (za Y t2)), (3, .ref (za Y t3)), (4, .ref (za Y t4)), (5, .int v5)]) hG dL_law_2219 (by decide) rfl ?_
  refine z_aload_n hG dL_law_2221 rfl 4 rfl ?_
  refine z_calli hG (z_runV (As := []) (st := []) hG k_L_149 (MX12_thrown l h2 hw) ⟨(Nat.le_of_ble_eq_true rfl), (Nat.le_of_ble_eq_true rfl)⟩ h2 (T := TX12) (N := 23) rfl (by decide) rfl (Nat.le_of_ble_eq_true rfl) dL_law_2222 ⟨show cl + 1 + 0 ≤ 601024 from by omega, show sl + 6 + 0 ≤ 7293034 from by omega⟩ rfl) (fun r12 σ11 hw => ?_)
  refine z_iload hG dL_law_2225 1 rfl ?_
  refine z_icmp_eq (tgt := 2232) hG dL_law_2227 (by decide) (fun c16 => ?_) (fun c16 => ?_)
  · have hw := hw.1 c16
    refine z_iload hG dL_law_2232 1 rfl ?_
    refine z_if_ne (tgt := 2249) hG dL_law_2234 (by decide) (fun c15 => ?_) (fun c15 => ?_)
    · have hw := hw.2 c15
      refine z_goto (tgt := 2768) hG dL_law_2249 (by decide) ?_
      refine zpick [2, 3, 4, 5, 6, 7] (lv' := [(0, .ref b), (1, .ref (za Y t1)), (2, .ref (za Y t2)), (3, .ref (za Y t3)), (4, .ref (za Y t4)), (5, .int v5)]) rfl ?_
      refine zwiden (k := cl + 1) (n := sl + 6) (by omega) (by omega) ?_
      exact BL_law_2768 hlt hG hsc hkb28 t1 t2 t3 t4 v5 Y σ11 _ _ hw hx h1 h2 h3 h4 (by omega) (by omega)
    · have hw := hw.1 c15
      refine z_aload_n hG dL_law_2237 rfl 5 rfl ?_
      refine z_iconst (v := 0) hG dL_law_2238 (by decide) ?_
      obtain ⟨q13, hw⟩ := hw
      refine z_lald hG h3 q13 dL_law_2239 ?_
      refine z_iload hG dL_law_2240 0 rfl ?_
      refine z_i2l hG dL_law_2242 ?_
      refine z_lcmp hG dL_law_2243 ?_
      refine z_if_eq (tgt := 2249) hG dL_law_2244 (by decide) (fun c14 => ?_) (fun c14 => ?_)
      · have hw := hw.1 c14
        refine z_goto (tgt := 2768) hG dL_law_2249 (by decide) ?_
        refine zpick [2, 3, 4, 5, 6, 7] (lv' := [(0, .ref b), (1, .ref (za Y t1)), (2, .ref (za Y t2)), (3, .ref (za Y t3)), (4, .ref (za Y t4)), (5, .int v5)]) rfl ?_
        refine zwiden (k := cl + 1) (n := sl + 6) (by omega) (by omega) ?_
        exact BL_law_2768 hlt hG hsc hkb28 t1 t2 t3 t4 v5 Y σ11 _ _ hw hx h1 h2 h3 h4 (by omega) (by omega)
      · have hw := hw.2 c14
        refine z_iconst (v := 0) hG dL_law_2247 (by decide) ?_
        exact hw.elim
  · have hw := hw.2 c16
    refine z_iconst (v := 0) hG dL_law_2230 (by decide) ?_
    exact hw.elim
set_option maxRecDepth 100000 in
set_option maxHeartbeats 4000000 in
theorem BL_law_2252 {l : Launch} (hlt : l.stackTraces = false) {E : zE} {Y0 : zY} {p : Program} {e : Env} {s : State} {m : MethodId} {b L : Nat} {xs : Nat → Int32} {below : List Frame} {meth : Method} {c : Code} (hG : zG E p l s m #[Value.ref b] meth c cL_law 9 RL (some .boolean) (zA Y0 s.heap.size)) (hsc : zLaw b L xs s Y0) {nf : Nat} {kb28 : Nat → Nat → Nat → Nat → Int32 → zSp → zS → Prop} (hkb28 : ∀ (t1 : Nat) (t2 : Nat) (t3 : Nat) (t4 : Nat) (v5 : Int32) (Y : zY) (σ : zS) (cl sl : Nat), kb28 t1 t2 t3 t4 v5 (zsp Y) σ → zext Y0 Y → zT Y 11 t1 → zT Y 12 t2 → zT Y 24 t3 → zT Y 25 t4 → cl + (nf * 50 + 0) ≤ 601024 → sl + (nf * 7356 + 0) ≤ 7293034 → WW E Y σ p l e room_1 s m #[Value.ref b] below meth c (zA Y0 s.heap.size) 9 cl sl (lw_Z below #[Value.ref b] s) [(0, .ref b), (1, .ref (za Y t1)), (2, .ref (za Y t2)), (3, .ref (za Y t3)), (4, .ref (za Y t4)), (5, .int v5)] 28 []) : ∀ (t1 : Nat) (t2 : Nat) (t3 : Nat) (t4 : Nat) (v5 : Int32) (Y : zY) (σ : zS) (cl sl : Nat), wL_law_2252 L xs kb28 t1 t2 t3 t4 v5 (zsp Y) σ → zext Y0 Y → zT Y 11 t1 → zT Y 12 t2 → zT Y 24 t3 → zT Y 25 t4 → cl + (2 + (nf * 50 + 0)) ≤ 601024 → sl + (12 + (nf * 7356 + 0)) ≤ 7293034 → WW E Y σ p l e room_1 s m #[Value.ref b] below meth c (zA Y0 s.heap.size) 9 cl sl (lw_Z below #[Value.ref b] s) [(0, .ref b), (1, .ref (za Y t1)), (2, .ref (za Y t2)), (3, .ref (za Y t3)), (4, .ref (za Y t4)), (5, .int v5)] 2252 [] := by
  intro t1 t2 t3 t4 v5 Y σ cl sl hw hx h1 h2 h3 h4 hcl hsl
  unfold wL_law_2252 at hw
  refine z_aload_n hG dL_law_2252 rfl 1 rfl ?_
  refine z_aload_n hG dL_law_2253 rfl 0 rfl ?_
  refine z_iload hG dL_law_2254 5 rfl ?_
  refine z_iconst (v := 1) hG dL_law_2256 (by decide) ?_
  refine z_iadd hG dL_law_2257 ?_
  refine z_topi (fun x1 ex1 => ?_)
  have hw := hw x1 ex1
  obtain ⟨q2, hw⟩ := hw
  refine z_lawld hG hsc q2 dL_law_2258 ?_
  refine z_aload_n hG dL_law_2259 rfl 3 rfl ?_
  obtain ⟨x3, ex3⟩ : ∃ y : Int32, y = xs x1.toNatClampNeg := ⟨_, rfl⟩
  refine zst (st' := [.ref (za Y t3), .int x3, .ref (za Y t1)]) (by rw [ex3] <;> rfl) ?_
  have hw := hw x3 ex3
  refine z_callCi hG (z_runSH (As := [.ref (za Y t1), .int x3, .ref (za Y t3)]) (st := []) hG k_L_304 (ML_lose l hlt h1 h3 hw) ⟨(Nat.le_of_ble_eq_true rfl), (Nat.le_of_ble_eq_true rfl)⟩ rfl (Nat.le_of_ble_eq_true rfl) dL_law_2260 ⟨show cl + 0 + 2 ≤ 601024 from by omega, show sl + 0 + 12 ≤ 7293034 from by omega⟩ rfl) (fun r5 σ4 hw => ?_)
  refine zwiden (k := cl + 2) (n := sl + 12) (show cl + 0 + 2 ≤ cl + 2 from by omega) (show sl + 0 + 12 ≤ sl + 12 from by omega) ?_
  refine z_istore (lv' := [(6, .int r5), (0, .ref b), (1, .ref (za Y t1)), (2, .ref (za Y t2)), (3, .ref (za Y t3)), (4, .ref (za Y t4)), (5, .int v5)]) hG dL_law_2263 (by decide) rfl ?_
  refine z_aload_n hG dL_law_2265 rfl 3 rfl ?_
  refine z_aload_n hG dL_law_2266 rfl 1 rfl ?_
  refine z_iload hG dL_law_2267 6 rfl ?_
  refine z_iconst (v := 1) hG dL_law_2269 (by decide) ?_
  refine z_iadd hG dL_law_2270 ?_
  refine z_topi (fun x6 ex6 => ?_)
  have hw := hw x6 ex6
  obtain ⟨q7, hw⟩ := hw
  refine z_lawld hG hsc q7 dL_law_2271 ?_
  refine z_topi (fun x8 ex8 => ?_)
  have hw := hw x8 ex8
  refine z_calli hG (z_runV (As := [.int x8]) (st := []) hG k_L_306 (MX12_lose l h2 hw) ⟨(Nat.le_of_ble_eq_true rfl), (Nat.le_of_ble_eq_true rfl)⟩ h2 (T := TX12) (N := 23) rfl (by decide) rfl (Nat.le_of_ble_eq_true rfl) dL_law_2272 ⟨show cl + 2 + 0 ≤ 601024 from by omega, show sl + 12 + 0 ≤ 7293034 from by omega⟩ rfl) (fun r10 σ9 hw => ?_)
  refine z_istore (lv' := [(7, .int r10), (6, .int r5), (0, .ref b), (1, .ref (za Y t1)), (2, .ref (za Y t2)), (3, .ref (za Y t3)), (4, .ref (za Y t4)), (5, .int v5)]) hG dL_law_2275 (by decide) rfl ?_
  refine z_aload_n hG dL_law_2277 rfl 4 rfl ?_
  refine z_calli hG (z_runV (As := []) (st := []) hG k_L_149 (MX12_thrown l h2 hw) ⟨(Nat.le_of_ble_eq_true rfl), (Nat.le_of_ble_eq_true rfl)⟩ h2 (T := TX12) (N := 23) rfl (by decide) rfl (Nat.le_of_ble_eq_true rfl) dL_law_2278 ⟨show cl + 2 + 0 ≤ 601024 from by omega, show sl + 12 + 0 ≤ 7293034 from by omega⟩ rfl) (fun r12 σ11 hw => ?_)
  refine z_iload hG dL_law_2281 1 rfl ?_
  refine z_icmp_eq (tgt := 2288) hG dL_law_2283 (by decide) (fun c16 => ?_) (fun c16 => ?_)
  · have hw := hw.1 c16
    refine z_iload hG dL_law_2288 1 rfl ?_
    refine z_if_ne (tgt := 2305) hG dL_law_2290 (by decide) (fun c15 => ?_) (fun c15 => ?_)
    · have hw := hw.2 c15
      refine z_goto (tgt := 2768) hG dL_law_2305 (by decide) ?_
      refine zpick [2, 3, 4, 5, 6, 7] (lv' := [(0, .ref b), (1, .ref (za Y t1)), (2, .ref (za Y t2)), (3, .ref (za Y t3)), (4, .ref (za Y t4)), (5, .int v5)]) rfl ?_
      refine zwiden (k := cl + 2) (n := sl + 12) (by omega) (by omega) ?_
      exact BL_law_2768 hlt hG hsc hkb28 t1 t2 t3 t4 v5 Y σ11 _ _ hw hx h1 h2 h3 h4 (by omega) (by omega)
    · have hw := hw.1 c15
      refine z_aload_n hG dL_law_2293 rfl 5 rfl ?_
      refine z_iconst (v := 0) hG dL_law_2294 (by decide) ?_
      obtain ⟨q13, hw⟩ := hw
      refine z_lald hG h3 q13 dL_law_2295 ?_
      refine z_iload hG dL_law_2296 0 rfl ?_
      refine z_i2l hG dL_law_2298 ?_
      refine z_lcmp hG dL_law_2299 ?_
      refine z_if_eq (tgt := 2305) hG dL_law_2300 (by decide) (fun c14 => ?_) (fun c14 => ?_)
      · have hw := hw.1 c14
        refine z_goto (tgt := 2768) hG dL_law_2305 (by decide) ?_
        refine zpick [2, 3, 4, 5, 6, 7] (lv' := [(0, .ref b), (1, .ref (za Y t1)), (2, .ref (za Y t2)), (3, .ref (za Y t3)), (4, .ref (za Y t4)), (5, .int v5)]) rfl ?_
        refine zwiden (k := cl + 2) (n := sl + 12) (by omega) (by omega) ?_
        exact BL_law_2768 hlt hG hsc hkb28 t1 t2 t3 t4 v5 Y σ11 _ _ hw hx h1 h2 h3 h4 (by omega) (by omega)
      · have hw := hw.2 c14
        refine z_iconst (v := 0) hG dL_law_2303 (by decide) ?_
        exact hw.elim
  · have hw := hw.2 c16
    refine z_iconst (v := 0) hG dL_law_2286 (by decide) ?_
    exact hw.elim
set_option maxRecDepth 100000 in
set_option maxHeartbeats 4000000 in
theorem BL_law_2308 {l : Launch} (hlt : l.stackTraces = false) {E : zE} {Y0 : zY} {p : Program} {e : Env} {s : State} {m : MethodId} {b L : Nat} {xs : Nat → Int32} {below : List Frame} {meth : Method} {c : Code} (hG : zG E p l s m #[Value.ref b] meth c cL_law 9 RL (some .boolean) (zA Y0 s.heap.size)) (hsc : zLaw b L xs s Y0) {nf : Nat} {kb28 : Nat → Nat → Nat → Nat → Int32 → zSp → zS → Prop} (hkb28 : ∀ (t1 : Nat) (t2 : Nat) (t3 : Nat) (t4 : Nat) (v5 : Int32) (Y : zY) (σ : zS) (cl sl : Nat), kb28 t1 t2 t3 t4 v5 (zsp Y) σ → zext Y0 Y → zT Y 11 t1 → zT Y 12 t2 → zT Y 24 t3 → zT Y 25 t4 → cl + (nf * 50 + 0) ≤ 601024 → sl + (nf * 7356 + 0) ≤ 7293034 → WW E Y σ p l e room_1 s m #[Value.ref b] below meth c (zA Y0 s.heap.size) 9 cl sl (lw_Z below #[Value.ref b] s) [(0, .ref b), (1, .ref (za Y t1)), (2, .ref (za Y t2)), (3, .ref (za Y t3)), (4, .ref (za Y t4)), (5, .int v5)] 28 []) : ∀ (t1 : Nat) (t2 : Nat) (t3 : Nat) (t4 : Nat) (v5 : Int32) (Y : zY) (σ : zS) (cl sl : Nat), wL_law_2308 L xs kb28 t1 t2 t3 t4 v5 (zsp Y) σ → zext Y0 Y → zT Y 11 t1 → zT Y 12 t2 → zT Y 24 t3 → zT Y 25 t4 → cl + (1 + (nf * 50 + 0)) ≤ 601024 → sl + (6 + (nf * 7356 + 0)) ≤ 7293034 → WW E Y σ p l e room_1 s m #[Value.ref b] below meth c (zA Y0 s.heap.size) 9 cl sl (lw_Z below #[Value.ref b] s) [(0, .ref b), (1, .ref (za Y t1)), (2, .ref (za Y t2)), (3, .ref (za Y t3)), (4, .ref (za Y t4)), (5, .int v5)] 2308 [] := by
  intro t1 t2 t3 t4 v5 Y σ cl sl hw hx h1 h2 h3 h4 hcl hsl
  unfold wL_law_2308 at hw
  refine z_aload_n hG dL_law_2308 rfl 1 rfl ?_
  refine z_aload_n hG dL_law_2309 rfl 3 rfl ?_
  refine z_callCi hG (z_runSH (As := [.ref (za Y t1), .ref (za Y t3)]) (st := []) hG k_L_307 (ML_undo l hlt h1 h3 hw) ⟨(Nat.le_of_ble_eq_true rfl), (Nat.le_of_ble_eq_true rfl)⟩ rfl (Nat.le_of_ble_eq_true rfl) dL_law_2310 ⟨show cl + 0 + 1 ≤ 601024 from by omega, show sl + 0 + 6 ≤ 7293034 from by omega⟩ rfl) (fun r2 σ1 hw => ?_)
  refine zwiden (k := cl + 1) (n := sl + 6) (show cl + 0 + 1 ≤ cl + 1 from by omega) (show sl + 0 + 6 ≤ sl + 6 from by omega) ?_
  refine z_istore (lv' := [(6, .int r2), (0, .ref b), (1, .ref (za Y t1)), (2, .ref (za Y t2)), (3, .ref (za Y t3)), (4, .ref (za Y t4)), (5, .int v5)]) hG dL_law_2313 (by decide) rfl ?_
  refine z_aload_n hG dL_law_2315 rfl 3 rfl ?_
  refine z_calli hG (z_runV (As := []) (st := []) hG k_L_309 (MX12_undo l h2 hw) ⟨(Nat.le_of_ble_eq_true rfl), (Nat.le_of_ble_eq_true rfl)⟩ h2 (T := TX12) (N := 23) rfl (by decide) rfl (Nat.le_of_ble_eq_true rfl) dL_law_2316 ⟨show cl + 1 + 0 ≤ 601024 from by omega, show sl + 6 + 0 ≤ 7293034 from by omega⟩ rfl) (fun r4 σ3 hw => ?_)
  refine z_istore (lv' := [(7, .int r4), (6, .int r2), (0, .ref b), (1, .ref (za Y t1)), (2, .ref (za Y t2)), (3, .ref (za Y t3)), (4, .ref (za Y t4)), (5, .int v5)]) hG dL_law_2319 (by decide) rfl ?_
  refine z_aload_n hG dL_law_2321 rfl 4 rfl ?_
  refine z_calli hG (z_runV (As := []) (st := []) hG k_L_149 (MX12_thrown l h2 hw) ⟨(Nat.le_of_ble_eq_true rfl), (Nat.le_of_ble_eq_true rfl)⟩ h2 (T := TX12) (N := 23) rfl (by decide) rfl (Nat.le_of_ble_eq_true rfl) dL_law_2322 ⟨show cl + 1 + 0 ≤ 601024 from by omega, show sl + 6 + 0 ≤ 7293034 from by omega⟩ rfl) (fun r6 σ5 hw => ?_)
  refine z_iload hG dL_law_2325 1 rfl ?_
  refine z_icmp_eq (tgt := 2332) hG dL_law_2327 (by decide) (fun c10 => ?_) (fun c10 => ?_)
  · have hw := hw.1 c10
    refine z_iload hG dL_law_2332 1 rfl ?_
    refine z_if_ne (tgt := 2349) hG dL_law_2334 (by decide) (fun c9 => ?_) (fun c9 => ?_)
    · have hw := hw.2 c9
      refine z_goto (tgt := 2768) hG dL_law_2349 (by decide) ?_
      refine zpick [2, 3, 4, 5, 6, 7] (lv' := [(0, .ref b), (1, .ref (za Y t1)), (2, .ref (za Y t2)), (3, .ref (za Y t3)), (4, .ref (za Y t4)), (5, .int v5)]) rfl ?_
      refine zwiden (k := cl + 1) (n := sl + 6) (by omega) (by omega) ?_
      exact BL_law_2768 hlt hG hsc hkb28 t1 t2 t3 t4 v5 Y σ5 _ _ hw hx h1 h2 h3 h4 (by omega) (by omega)
    · have hw := hw.1 c9
      refine z_aload_n hG dL_law_2337 rfl 5 rfl ?_
      refine z_iconst (v := 0) hG dL_law_2338 (by decide) ?_
      obtain ⟨q7, hw⟩ := hw
      refine z_lald hG h3 q7 dL_law_2339 ?_
      refine z_iload hG dL_law_2340 0 rfl ?_
      refine z_i2l hG dL_law_2342 ?_
      refine z_lcmp hG dL_law_2343 ?_
      refine z_if_eq (tgt := 2349) hG dL_law_2344 (by decide) (fun c8 => ?_) (fun c8 => ?_)
      · have hw := hw.1 c8
        refine z_goto (tgt := 2768) hG dL_law_2349 (by decide) ?_
        refine zpick [2, 3, 4, 5, 6, 7] (lv' := [(0, .ref b), (1, .ref (za Y t1)), (2, .ref (za Y t2)), (3, .ref (za Y t3)), (4, .ref (za Y t4)), (5, .int v5)]) rfl ?_
        refine zwiden (k := cl + 1) (n := sl + 6) (by omega) (by omega) ?_
        exact BL_law_2768 hlt hG hsc hkb28 t1 t2 t3 t4 v5 Y σ5 _ _ hw hx h1 h2 h3 h4 (by omega) (by omega)
      · have hw := hw.2 c8
        refine z_iconst (v := 0) hG dL_law_2347 (by decide) ?_
        exact hw.elim
  · have hw := hw.2 c10
    refine z_iconst (v := 0) hG dL_law_2330 (by decide) ?_
    exact hw.elim
set_option maxRecDepth 100000 in
set_option maxHeartbeats 4000000 in
theorem BL_law_2352 {l : Launch} (hlt : l.stackTraces = false) {E : zE} {Y0 : zY} {p : Program} {e : Env} {s : State} {m : MethodId} {b L : Nat} {xs : Nat → Int32} {below : List Frame} {meth : Method} {c : Code} (hG : zG E p l s m #[Value.ref b] meth c cL_law 9 RL (some .boolean) (zA Y0 s.heap.size)) (hsc : zLaw b L xs s Y0) {nf : Nat} {kb28 : Nat → Nat → Nat → Nat → Int32 → zSp → zS → Prop} (hkb28 : ∀ (t1 : Nat) (t2 : Nat) (t3 : Nat) (t4 : Nat) (v5 : Int32) (Y : zY) (σ : zS) (cl sl : Nat), kb28 t1 t2 t3 t4 v5 (zsp Y) σ → zext Y0 Y → zT Y 11 t1 → zT Y 12 t2 → zT Y 24 t3 → zT Y 25 t4 → cl + (nf * 50 + 0) ≤ 601024 → sl + (nf * 7356 + 0) ≤ 7293034 → WW E Y σ p l e room_1 s m #[Value.ref b] below meth c (zA Y0 s.heap.size) 9 cl sl (lw_Z below #[Value.ref b] s) [(0, .ref b), (1, .ref (za Y t1)), (2, .ref (za Y t2)), (3, .ref (za Y t3)), (4, .ref (za Y t4)), (5, .int v5)] 28 []) : ∀ (t1 : Nat) (t2 : Nat) (t3 : Nat) (t4 : Nat) (v5 : Int32) (Y : zY) (σ : zS) (cl sl : Nat), wL_law_2352 L xs kb28 t1 t2 t3 t4 v5 (zsp Y) σ → zext Y0 Y → zT Y 11 t1 → zT Y 12 t2 → zT Y 24 t3 → zT Y 25 t4 → cl + (1 + (nf * 50 + 0)) ≤ 601024 → sl + (6 + (nf * 7356 + 0)) ≤ 7293034 → WW E Y σ p l e room_1 s m #[Value.ref b] below meth c (zA Y0 s.heap.size) 9 cl sl (lw_Z below #[Value.ref b] s) [(0, .ref b), (1, .ref (za Y t1)), (2, .ref (za Y t2)), (3, .ref (za Y t3)), (4, .ref (za Y t4)), (5, .int v5)] 2352 [] := by
  intro t1 t2 t3 t4 v5 Y σ cl sl hw hx h1 h2 h3 h4 hcl hsl
  unfold wL_law_2352 at hw
  refine z_aload_n hG dL_law_2352 rfl 1 rfl ?_
  refine z_aload_n hG dL_law_2353 rfl 0 rfl ?_
  refine z_iload hG dL_law_2354 5 rfl ?_
  refine z_iconst (v := 1) hG dL_law_2356 (by decide) ?_
  refine z_iadd hG dL_law_2357 ?_
  refine z_topi (fun x1 ex1 => ?_)
  have hw := hw x1 ex1
  obtain ⟨q2, hw⟩ := hw
  refine z_lawld hG hsc q2 dL_law_2358 ?_
  refine z_aload_n hG dL_law_2359 rfl 3 rfl ?_
  obtain ⟨x3, ex3⟩ : ∃ y : Int32, y = xs x1.toNatClampNeg := ⟨_, rfl⟩
  refine zst (st' := [.ref (za Y t3), .int x3, .ref (za Y t1)]) (by rw [ex3] <;> rfl) ?_
  have hw := hw x3 ex3
  refine z_callCi hG (z_runSH (As := [.ref (za Y t1), .int x3, .ref (za Y t3)]) (st := []) hG k_L_310 (ML_misprintsIn l hlt h1 h3 hw) ⟨(Nat.le_of_ble_eq_true rfl), (Nat.le_of_ble_eq_true rfl)⟩ rfl (Nat.le_of_ble_eq_true rfl) dL_law_2360 ⟨show cl + 0 + 1 ≤ 601024 from by omega, show sl + 0 + 6 ≤ 7293034 from by omega⟩ rfl) (fun r5 σ4 hw => ?_)
  refine zwiden (k := cl + 1) (n := sl + 6) (show cl + 0 + 1 ≤ cl + 1 from by omega) (show sl + 0 + 6 ≤ sl + 6 from by omega) ?_
  refine z_istore (lv' := [(6, .int r5), (0, .ref b), (1, .ref (za Y t1)), (2, .ref (za Y t2)), (3, .ref (za Y t3)), (4, .ref (za Y t4)), (5, .int v5)]) hG dL_law_2363 (by decide) rfl ?_
  refine z_aload_n hG dL_law_2365 rfl 3 rfl ?_
  refine z_aload_n hG dL_law_2366 rfl 1 rfl ?_
  refine z_iload hG dL_law_2367 6 rfl ?_
  refine z_iconst (v := 1) hG dL_law_2369 (by decide) ?_
  refine z_iadd hG dL_law_2370 ?_
  refine z_topi (fun x6 ex6 => ?_)
  have hw := hw x6 ex6
  obtain ⟨q7, hw⟩ := hw
  refine z_lawld hG hsc q7 dL_law_2371 ?_
  refine z_topi (fun x8 ex8 => ?_)
  have hw := hw x8 ex8
  refine z_calli hG (z_runV (As := [.int x8]) (st := []) hG k_L_312 (MX12_misprintsIn l h2 hw) ⟨(Nat.le_of_ble_eq_true rfl), (Nat.le_of_ble_eq_true rfl)⟩ h2 (T := TX12) (N := 23) rfl (by decide) rfl (Nat.le_of_ble_eq_true rfl) dL_law_2372 ⟨show cl + 1 + 0 ≤ 601024 from by omega, show sl + 6 + 0 ≤ 7293034 from by omega⟩ rfl) (fun r10 σ9 hw => ?_)
  refine z_istore (lv' := [(7, .int r10), (6, .int r5), (0, .ref b), (1, .ref (za Y t1)), (2, .ref (za Y t2)), (3, .ref (za Y t3)), (4, .ref (za Y t4)), (5, .int v5)]) hG dL_law_2375 (by decide) rfl ?_
  refine z_aload_n hG dL_law_2377 rfl 4 rfl ?_
  refine z_calli hG (z_runV (As := []) (st := []) hG k_L_149 (MX12_thrown l h2 hw) ⟨(Nat.le_of_ble_eq_true rfl), (Nat.le_of_ble_eq_true rfl)⟩ h2 (T := TX12) (N := 23) rfl (by decide) rfl (Nat.le_of_ble_eq_true rfl) dL_law_2378 ⟨show cl + 1 + 0 ≤ 601024 from by omega, show sl + 6 + 0 ≤ 7293034 from by omega⟩ rfl) (fun r12 σ11 hw => ?_)
  refine z_iload hG dL_law_2381 1 rfl ?_
  refine z_icmp_eq (tgt := 2388) hG dL_law_2383 (by decide) (fun c16 => ?_) (fun c16 => ?_)
  · have hw := hw.1 c16
    refine z_iload hG dL_law_2388 1 rfl ?_
    refine z_if_ne (tgt := 2405) hG dL_law_2390 (by decide) (fun c15 => ?_) (fun c15 => ?_)
    · have hw := hw.2 c15
      refine z_goto (tgt := 2768) hG dL_law_2405 (by decide) ?_
      refine zpick [2, 3, 4, 5, 6, 7] (lv' := [(0, .ref b), (1, .ref (za Y t1)), (2, .ref (za Y t2)), (3, .ref (za Y t3)), (4, .ref (za Y t4)), (5, .int v5)]) rfl ?_
      refine zwiden (k := cl + 1) (n := sl + 6) (by omega) (by omega) ?_
      exact BL_law_2768 hlt hG hsc hkb28 t1 t2 t3 t4 v5 Y σ11 _ _ hw hx h1 h2 h3 h4 (by omega) (by omega)
    · have hw := hw.1 c15
      refine z_aload_n hG dL_law_2393 rfl 5 rfl ?_
      refine z_iconst (v := 0) hG dL_law_2394 (by decide) ?_
      obtain ⟨q13, hw⟩ := hw
      refine z_lald hG h3 q13 dL_law_2395 ?_
      refine z_iload hG dL_law_2396 0 rfl ?_
      refine z_i2l hG dL_law_2398 ?_
      refine z_lcmp hG dL_law_2399 ?_
      refine z_if_eq (tgt := 2405) hG dL_law_2400 (by decide) (fun c14 => ?_) (fun c14 => ?_)
      · have hw := hw.1 c14
        refine z_goto (tgt := 2768) hG dL_law_2405 (by decide) ?_
        refine zpick [2, 3, 4, 5, 6, 7] (lv' := [(0, .ref b), (1, .ref (za Y t1)), (2, .ref (za Y t2)), (3, .ref (za Y t3)), (4, .ref (za Y t4)), (5, .int v5)]) rfl ?_
        refine zwiden (k := cl + 1) (n := sl + 6) (by omega) (by omega) ?_
        exact BL_law_2768 hlt hG hsc hkb28 t1 t2 t3 t4 v5 Y σ11 _ _ hw hx h1 h2 h3 h4 (by omega) (by omega)
      · have hw := hw.2 c14
        refine z_iconst (v := 0) hG dL_law_2403 (by decide) ?_
        exact hw.elim
  · have hw := hw.2 c16
    refine z_iconst (v := 0) hG dL_law_2386 (by decide) ?_
    exact hw.elim
set_option maxRecDepth 100000 in
set_option maxHeartbeats 4000000 in
theorem BL_law_2408 {l : Launch} (hlt : l.stackTraces = false) {E : zE} {Y0 : zY} {p : Program} {e : Env} {s : State} {m : MethodId} {b L : Nat} {xs : Nat → Int32} {below : List Frame} {meth : Method} {c : Code} (hG : zG E p l s m #[Value.ref b] meth c cL_law 9 RL (some .boolean) (zA Y0 s.heap.size)) (hsc : zLaw b L xs s Y0) {nf : Nat} {kb28 : Nat → Nat → Nat → Nat → Int32 → zSp → zS → Prop} (hkb28 : ∀ (t1 : Nat) (t2 : Nat) (t3 : Nat) (t4 : Nat) (v5 : Int32) (Y : zY) (σ : zS) (cl sl : Nat), kb28 t1 t2 t3 t4 v5 (zsp Y) σ → zext Y0 Y → zT Y 11 t1 → zT Y 12 t2 → zT Y 24 t3 → zT Y 25 t4 → cl + (nf * 50 + 0) ≤ 601024 → sl + (nf * 7356 + 0) ≤ 7293034 → WW E Y σ p l e room_1 s m #[Value.ref b] below meth c (zA Y0 s.heap.size) 9 cl sl (lw_Z below #[Value.ref b] s) [(0, .ref b), (1, .ref (za Y t1)), (2, .ref (za Y t2)), (3, .ref (za Y t3)), (4, .ref (za Y t4)), (5, .int v5)] 28 []) : ∀ (t1 : Nat) (t2 : Nat) (t3 : Nat) (t4 : Nat) (v5 : Int32) (Y : zY) (σ : zS) (cl sl : Nat), wL_law_2408 L xs kb28 t1 t2 t3 t4 v5 (zsp Y) σ → zext Y0 Y → zT Y 11 t1 → zT Y 12 t2 → zT Y 24 t3 → zT Y 25 t4 → cl + (1 + (nf * 50 + 0)) ≤ 601024 → sl + (6 + (nf * 7356 + 0)) ≤ 7293034 → WW E Y σ p l e room_1 s m #[Value.ref b] below meth c (zA Y0 s.heap.size) 9 cl sl (lw_Z below #[Value.ref b] s) [(0, .ref b), (1, .ref (za Y t1)), (2, .ref (za Y t2)), (3, .ref (za Y t3)), (4, .ref (za Y t4)), (5, .int v5)] 2408 [] := by
  intro t1 t2 t3 t4 v5 Y σ cl sl hw hx h1 h2 h3 h4 hcl hsl
  unfold wL_law_2408 at hw
  refine z_aload_n hG dL_law_2408 rfl 1 rfl ?_
  refine z_aload_n hG dL_law_2409 rfl 0 rfl ?_
  refine z_iload hG dL_law_2410 5 rfl ?_
  refine z_iconst (v := 1) hG dL_law_2412 (by decide) ?_
  refine z_iadd hG dL_law_2413 ?_
  refine z_topi (fun x1 ex1 => ?_)
  have hw := hw x1 ex1
  obtain ⟨q2, hw⟩ := hw
  refine z_lawld hG hsc q2 dL_law_2414 ?_
  refine z_aload_n hG dL_law_2415 rfl 3 rfl ?_
  obtain ⟨x3, ex3⟩ : ∃ y : Int32, y = xs x1.toNatClampNeg := ⟨_, rfl⟩
  refine zst (st' := [.ref (za Y t3), .int x3, .ref (za Y t1)]) (by rw [ex3] <;> rfl) ?_
  have hw := hw x3 ex3
  refine z_callCi hG (z_runSH (As := [.ref (za Y t1), .int x3, .ref (za Y t3)]) (st := []) hG k_L_313 (ML_ticksUntilDone l hlt h1 h3 hw) ⟨(Nat.le_of_ble_eq_true rfl), (Nat.le_of_ble_eq_true rfl)⟩ rfl (Nat.le_of_ble_eq_true rfl) dL_law_2416 ⟨show cl + 0 + 1 ≤ 601024 from by omega, show sl + 0 + 6 ≤ 7293034 from by omega⟩ rfl) (fun r5 σ4 hw => ?_)
  refine zwiden (k := cl + 1) (n := sl + 6) (show cl + 0 + 1 ≤ cl + 1 from by omega) (show sl + 0 + 6 ≤ sl + 6 from by omega) ?_
  refine z_istore (lv' := [(6, .int r5), (0, .ref b), (1, .ref (za Y t1)), (2, .ref (za Y t2)), (3, .ref (za Y t3)), (4, .ref (za Y t4)), (5, .int v5)]) hG dL_law_2419 (by decide) rfl ?_
  refine z_aload_n hG dL_law_2421 rfl 3 rfl ?_
  refine z_aload_n hG dL_law_2422 rfl 1 rfl ?_
  refine z_iload hG dL_law_2423 6 rfl ?_
  refine z_iconst (v := 1) hG dL_law_2425 (by decide) ?_
  refine z_iadd hG dL_law_2426 ?_
  refine z_topi (fun x6 ex6 => ?_)
  have hw := hw x6 ex6
  obtain ⟨q7, hw⟩ := hw
  refine z_lawld hG hsc q7 dL_law_2427 ?_
  refine z_topi (fun x8 ex8 => ?_)
  have hw := hw x8 ex8
  refine z_calli hG (z_runV (As := [.int x8]) (st := []) hG k_L_315 (MX12_ticksUntilDone l h2 hw) ⟨(Nat.le_of_ble_eq_true rfl), (Nat.le_of_ble_eq_true rfl)⟩ h2 (T := TX12) (N := 23) rfl (by decide) rfl (Nat.le_of_ble_eq_true rfl) dL_law_2428 ⟨show cl + 1 + 0 ≤ 601024 from by omega, show sl + 6 + 0 ≤ 7293034 from by omega⟩ rfl) (fun r10 σ9 hw => ?_)
  refine z_istore (lv' := [(7, .int r10), (6, .int r5), (0, .ref b), (1, .ref (za Y t1)), (2, .ref (za Y t2)), (3, .ref (za Y t3)), (4, .ref (za Y t4)), (5, .int v5)]) hG dL_law_2431 (by decide) rfl ?_
  refine z_aload_n hG dL_law_2433 rfl 4 rfl ?_
  refine z_calli hG (z_runV (As := []) (st := []) hG k_L_149 (MX12_thrown l h2 hw) ⟨(Nat.le_of_ble_eq_true rfl), (Nat.le_of_ble_eq_true rfl)⟩ h2 (T := TX12) (N := 23) rfl (by decide) rfl (Nat.le_of_ble_eq_true rfl) dL_law_2434 ⟨show cl + 1 + 0 ≤ 601024 from by omega, show sl + 6 + 0 ≤ 7293034 from by omega⟩ rfl) (fun r12 σ11 hw => ?_)
  refine z_iload hG dL_law_2437 1 rfl ?_
  refine z_icmp_eq (tgt := 2444) hG dL_law_2439 (by decide) (fun c16 => ?_) (fun c16 => ?_)
  · have hw := hw.1 c16
    refine z_iload hG dL_law_2444 1 rfl ?_
    refine z_if_ne (tgt := 2461) hG dL_law_2446 (by decide) (fun c15 => ?_) (fun c15 => ?_)
    · have hw := hw.2 c15
      refine z_goto (tgt := 2768) hG dL_law_2461 (by decide) ?_
      refine zpick [2, 3, 4, 5, 6, 7] (lv' := [(0, .ref b), (1, .ref (za Y t1)), (2, .ref (za Y t2)), (3, .ref (za Y t3)), (4, .ref (za Y t4)), (5, .int v5)]) rfl ?_
      refine zwiden (k := cl + 1) (n := sl + 6) (by omega) (by omega) ?_
      exact BL_law_2768 hlt hG hsc hkb28 t1 t2 t3 t4 v5 Y σ11 _ _ hw hx h1 h2 h3 h4 (by omega) (by omega)
    · have hw := hw.1 c15
      refine z_aload_n hG dL_law_2449 rfl 5 rfl ?_
      refine z_iconst (v := 0) hG dL_law_2450 (by decide) ?_
      obtain ⟨q13, hw⟩ := hw
      refine z_lald hG h3 q13 dL_law_2451 ?_
      refine z_iload hG dL_law_2452 0 rfl ?_
      refine z_i2l hG dL_law_2454 ?_
      refine z_lcmp hG dL_law_2455 ?_
      refine z_if_eq (tgt := 2461) hG dL_law_2456 (by decide) (fun c14 => ?_) (fun c14 => ?_)
      · have hw := hw.1 c14
        refine z_goto (tgt := 2768) hG dL_law_2461 (by decide) ?_
        refine zpick [2, 3, 4, 5, 6, 7] (lv' := [(0, .ref b), (1, .ref (za Y t1)), (2, .ref (za Y t2)), (3, .ref (za Y t3)), (4, .ref (za Y t4)), (5, .int v5)]) rfl ?_
        refine zwiden (k := cl + 1) (n := sl + 6) (by omega) (by omega) ?_
        exact BL_law_2768 hlt hG hsc hkb28 t1 t2 t3 t4 v5 Y σ11 _ _ hw hx h1 h2 h3 h4 (by omega) (by omega)
      · have hw := hw.2 c14
        refine z_iconst (v := 0) hG dL_law_2459 (by decide) ?_
        exact hw.elim
  · have hw := hw.2 c16
    refine z_iconst (v := 0) hG dL_law_2442 (by decide) ?_
    exact hw.elim
set_option maxRecDepth 100000 in
set_option maxHeartbeats 4000000 in
theorem BL_law_2464 {l : Launch} (hlt : l.stackTraces = false) {E : zE} {Y0 : zY} {p : Program} {e : Env} {s : State} {m : MethodId} {b L : Nat} {xs : Nat → Int32} {below : List Frame} {meth : Method} {c : Code} (hG : zG E p l s m #[Value.ref b] meth c cL_law 9 RL (some .boolean) (zA Y0 s.heap.size)) (hsc : zLaw b L xs s Y0) {nf : Nat} {kb28 : Nat → Nat → Nat → Nat → Int32 → zSp → zS → Prop} (hkb28 : ∀ (t1 : Nat) (t2 : Nat) (t3 : Nat) (t4 : Nat) (v5 : Int32) (Y : zY) (σ : zS) (cl sl : Nat), kb28 t1 t2 t3 t4 v5 (zsp Y) σ → zext Y0 Y → zT Y 11 t1 → zT Y 12 t2 → zT Y 24 t3 → zT Y 25 t4 → cl + (nf * 50 + 0) ≤ 601024 → sl + (nf * 7356 + 0) ≤ 7293034 → WW E Y σ p l e room_1 s m #[Value.ref b] below meth c (zA Y0 s.heap.size) 9 cl sl (lw_Z below #[Value.ref b] s) [(0, .ref b), (1, .ref (za Y t1)), (2, .ref (za Y t2)), (3, .ref (za Y t3)), (4, .ref (za Y t4)), (5, .int v5)] 28 []) : ∀ (t1 : Nat) (t2 : Nat) (t3 : Nat) (t4 : Nat) (v5 : Int32) (Y : zY) (σ : zS) (cl sl : Nat), wL_law_2464 L xs kb28 t1 t2 t3 t4 v5 (zsp Y) σ → zext Y0 Y → zT Y 11 t1 → zT Y 12 t2 → zT Y 24 t3 → zT Y 25 t4 → cl + (1 + (nf * 50 + 0)) ≤ 601024 → sl + (6 + (nf * 7356 + 0)) ≤ 7293034 → WW E Y σ p l e room_1 s m #[Value.ref b] below meth c (zA Y0 s.heap.size) 9 cl sl (lw_Z below #[Value.ref b] s) [(0, .ref b), (1, .ref (za Y t1)), (2, .ref (za Y t2)), (3, .ref (za Y t3)), (4, .ref (za Y t4)), (5, .int v5)] 2464 [] := by
  intro t1 t2 t3 t4 v5 Y σ cl sl hw hx h1 h2 h3 h4 hcl hsl
  unfold wL_law_2464 at hw
  refine z_aload_n hG dL_law_2464 rfl 1 rfl ?_
  refine z_aload_n hG dL_law_2465 rfl 0 rfl ?_
  refine z_iload hG dL_law_2466 5 rfl ?_
  refine z_iconst (v := 1) hG dL_law_2468 (by decide) ?_
  refine z_iadd hG dL_law_2469 ?_
  refine z_topi (fun x1 ex1 => ?_)
  have hw := hw x1 ex1
  obtain ⟨q2, hw⟩ := hw
  refine z_lawld hG hsc q2 dL_law_2470 ?_
  refine z_aload_n hG dL_law_2471 rfl 3 rfl ?_
  obtain ⟨x3, ex3⟩ : ∃ y : Int32, y = xs x1.toNatClampNeg := ⟨_, rfl⟩
  refine zst (st' := [.ref (za Y t3), .int x3, .ref (za Y t1)]) (by rw [ex3] <;> rfl) ?_
  have hw := hw x3 ex3
  refine z_callCi hG (z_runSH (As := [.ref (za Y t1), .int x3, .ref (za Y t3)]) (st := []) hG k_L_316 (ML_bestCorrection l hlt h1 h3 hw) ⟨(Nat.le_of_ble_eq_true rfl), (Nat.le_of_ble_eq_true rfl)⟩ rfl (Nat.le_of_ble_eq_true rfl) dL_law_2472 ⟨show cl + 0 + 1 ≤ 601024 from by omega, show sl + 0 + 6 ≤ 7293034 from by omega⟩ rfl) (fun r5 σ4 hw => ?_)
  refine zwiden (k := cl + 1) (n := sl + 6) (show cl + 0 + 1 ≤ cl + 1 from by omega) (show sl + 0 + 6 ≤ sl + 6 from by omega) ?_
  refine z_istore (lv' := [(6, .int r5), (0, .ref b), (1, .ref (za Y t1)), (2, .ref (za Y t2)), (3, .ref (za Y t3)), (4, .ref (za Y t4)), (5, .int v5)]) hG dL_law_2475 (by decide) rfl ?_
  refine z_aload_n hG dL_law_2477 rfl 3 rfl ?_
  refine z_aload_n hG dL_law_2478 rfl 1 rfl ?_
  refine z_iload hG dL_law_2479 6 rfl ?_
  refine z_iconst (v := 1) hG dL_law_2481 (by decide) ?_
  refine z_iadd hG dL_law_2482 ?_
  refine z_topi (fun x6 ex6 => ?_)
  have hw := hw x6 ex6
  obtain ⟨q7, hw⟩ := hw
  refine z_lawld hG hsc q7 dL_law_2483 ?_
  refine z_topi (fun x8 ex8 => ?_)
  have hw := hw x8 ex8
  refine z_calli hG (z_runV (As := [.int x8]) (st := []) hG k_L_318 (MX12_bestCorrection l h2 hw) ⟨(Nat.le_of_ble_eq_true rfl), (Nat.le_of_ble_eq_true rfl)⟩ h2 (T := TX12) (N := 23) rfl (by decide) rfl (Nat.le_of_ble_eq_true rfl) dL_law_2484 ⟨show cl + 1 + 0 ≤ 601024 from by omega, show sl + 6 + 0 ≤ 7293034 from by omega⟩ rfl) (fun r10 σ9 hw => ?_)
  refine z_istore (lv' := [(7, .int r10), (6, .int r5), (0, .ref b), (1, .ref (za Y t1)), (2, .ref (za Y t2)), (3, .ref (za Y t3)), (4, .ref (za Y t4)), (5, .int v5)]) hG dL_law_2487 (by decide) rfl ?_
  refine z_aload_n hG dL_law_2489 rfl 4 rfl ?_
  refine z_calli hG (z_runV (As := []) (st := []) hG k_L_149 (MX12_thrown l h2 hw) ⟨(Nat.le_of_ble_eq_true rfl), (Nat.le_of_ble_eq_true rfl)⟩ h2 (T := TX12) (N := 23) rfl (by decide) rfl (Nat.le_of_ble_eq_true rfl) dL_law_2490 ⟨show cl + 1 + 0 ≤ 601024 from by omega, show sl + 6 + 0 ≤ 7293034 from by omega⟩ rfl) (fun r12 σ11 hw => ?_)
  refine z_iload hG dL_law_2493 1 rfl ?_
  refine z_icmp_eq (tgt := 2500) hG dL_law_2495 (by decide) (fun c16 => ?_) (fun c16 => ?_)
  · have hw := hw.1 c16
    refine z_iload hG dL_law_2500 1 rfl ?_
    refine z_if_ne (tgt := 2517) hG dL_law_2502 (by decide) (fun c15 => ?_) (fun c15 => ?_)
    · have hw := hw.2 c15
      refine z_goto (tgt := 2768) hG dL_law_2517 (by decide) ?_
      refine zpick [2, 3, 4, 5, 6, 7] (lv' := [(0, .ref b), (1, .ref (za Y t1)), (2, .ref (za Y t2)), (3, .ref (za Y t3)), (4, .ref (za Y t4)), (5, .int v5)]) rfl ?_
      refine zwiden (k := cl + 1) (n := sl + 6) (by omega) (by omega) ?_
      exact BL_law_2768 hlt hG hsc hkb28 t1 t2 t3 t4 v5 Y σ11 _ _ hw hx h1 h2 h3 h4 (by omega) (by omega)
    · have hw := hw.1 c15
      refine z_aload_n hG dL_law_2505 rfl 5 rfl ?_
      refine z_iconst (v := 0) hG dL_law_2506 (by decide) ?_
      obtain ⟨q13, hw⟩ := hw
      refine z_lald hG h3 q13 dL_law_2507 ?_
      refine z_iload hG dL_law_2508 0 rfl ?_
      refine z_i2l hG dL_law_2510 ?_
      refine z_lcmp hG dL_law_2511 ?_
      refine z_if_eq (tgt := 2517) hG dL_law_2512 (by decide) (fun c14 => ?_) (fun c14 => ?_)
      · have hw := hw.1 c14
        refine z_goto (tgt := 2768) hG dL_law_2517 (by decide) ?_
        refine zpick [2, 3, 4, 5, 6, 7] (lv' := [(0, .ref b), (1, .ref (za Y t1)), (2, .ref (za Y t2)), (3, .ref (za Y t3)), (4, .ref (za Y t4)), (5, .int v5)]) rfl ?_
        refine zwiden (k := cl + 1) (n := sl + 6) (by omega) (by omega) ?_
        exact BL_law_2768 hlt hG hsc hkb28 t1 t2 t3 t4 v5 Y σ11 _ _ hw hx h1 h2 h3 h4 (by omega) (by omega)
      · have hw := hw.2 c14
        refine z_iconst (v := 0) hG dL_law_2515 (by decide) ?_
        exact hw.elim
  · have hw := hw.2 c16
    refine z_iconst (v := 0) hG dL_law_2498 (by decide) ?_
    exact hw.elim
set_option maxRecDepth 100000 in
set_option maxHeartbeats 4000000 in
theorem BL_law_2520 {l : Launch} (hlt : l.stackTraces = false) {E : zE} {Y0 : zY} {p : Program} {e : Env} {s : State} {m : MethodId} {b L : Nat} {xs : Nat → Int32} {below : List Frame} {meth : Method} {c : Code} (hG : zG E p l s m #[Value.ref b] meth c cL_law 9 RL (some .boolean) (zA Y0 s.heap.size)) (hsc : zLaw b L xs s Y0) {nf : Nat} {kb28 : Nat → Nat → Nat → Nat → Int32 → zSp → zS → Prop} (hkb28 : ∀ (t1 : Nat) (t2 : Nat) (t3 : Nat) (t4 : Nat) (v5 : Int32) (Y : zY) (σ : zS) (cl sl : Nat), kb28 t1 t2 t3 t4 v5 (zsp Y) σ → zext Y0 Y → zT Y 11 t1 → zT Y 12 t2 → zT Y 24 t3 → zT Y 25 t4 → cl + (nf * 50 + 0) ≤ 601024 → sl + (nf * 7356 + 0) ≤ 7293034 → WW E Y σ p l e room_1 s m #[Value.ref b] below meth c (zA Y0 s.heap.size) 9 cl sl (lw_Z below #[Value.ref b] s) [(0, .ref b), (1, .ref (za Y t1)), (2, .ref (za Y t2)), (3, .ref (za Y t3)), (4, .ref (za Y t4)), (5, .int v5)] 28 []) : ∀ (t1 : Nat) (t2 : Nat) (t3 : Nat) (t4 : Nat) (v5 : Int32) (Y : zY) (σ : zS) (cl sl : Nat), wL_law_2520 L xs kb28 t1 t2 t3 t4 v5 (zsp Y) σ → zext Y0 Y → zT Y 11 t1 → zT Y 12 t2 → zT Y 24 t3 → zT Y 25 t4 → cl + (2 + (nf * 50 + 0)) ≤ 601024 → sl + (12 + (nf * 7356 + 0)) ≤ 7293034 → WW E Y σ p l e room_1 s m #[Value.ref b] below meth c (zA Y0 s.heap.size) 9 cl sl (lw_Z below #[Value.ref b] s) [(0, .ref b), (1, .ref (za Y t1)), (2, .ref (za Y t2)), (3, .ref (za Y t3)), (4, .ref (za Y t4)), (5, .int v5)] 2520 [] := by
  intro t1 t2 t3 t4 v5 Y σ cl sl hw hx h1 h2 h3 h4 hcl hsl
  unfold wL_law_2520 at hw
  refine z_aload_n hG dL_law_2520 rfl 1 rfl ?_
  refine z_aload_n hG dL_law_2521 rfl 0 rfl ?_
  refine z_iload hG dL_law_2522 5 rfl ?_
  refine z_iconst (v := 1) hG dL_law_2524 (by decide) ?_
  refine z_iadd hG dL_law_2525 ?_
  refine z_topi (fun x1 ex1 => ?_)
  have hw := hw x1 ex1
  obtain ⟨q2, hw⟩ := hw
  refine z_lawld hG hsc q2 dL_law_2526 ?_
  refine z_aload_n hG dL_law_2527 rfl 0 rfl ?_
  refine z_iload hG dL_law_2528 5 rfl ?_
  refine z_iconst (v := 2) hG dL_law_2530 (by decide) ?_
  refine z_iadd hG dL_law_2531 ?_
  refine z_topi (fun x3 ex3 => ?_)
  have hw := hw x3 ex3
  obtain ⟨q4, hw⟩ := hw
  refine z_lawld hG hsc q4 dL_law_2532 ?_
  refine z_aload_n hG dL_law_2533 rfl 3 rfl ?_
  obtain ⟨x5, ex5⟩ : ∃ y : Int32, y = xs x3.toNatClampNeg := ⟨_, rfl⟩
  refine zst (st' := [.ref (za Y t3), .int x5, .int (xs x1.toNatClampNeg), .ref (za Y t1)]) (by rw [ex5] <;> rfl) ?_
  have hw := hw x5 ex5
  obtain ⟨x6, ex6⟩ : ∃ y : Int32, y = xs x1.toNatClampNeg := ⟨_, rfl⟩
  refine zst (st' := [.ref (za Y t3), .int x5, .int x6, .ref (za Y t1)]) (by rw [ex6] <;> rfl) ?_
  have hw := hw x6 ex6
  refine z_callCi hG (z_runSH (As := [.ref (za Y t1), .int x6, .int x5, .ref (za Y t3)]) (st := []) hG k_L_319 (ML_bestRate l hlt h1 h3 hw) ⟨(Nat.le_of_ble_eq_true rfl), (Nat.le_of_ble_eq_true rfl)⟩ rfl (Nat.le_of_ble_eq_true rfl) dL_law_2534 ⟨show cl + 0 + 2 ≤ 601024 from by omega, show sl + 0 + 12 ≤ 7293034 from by omega⟩ rfl) (fun r8 σ7 hw => ?_)
  refine zwiden (k := cl + 2) (n := sl + 12) (show cl + 0 + 2 ≤ cl + 2 from by omega) (show sl + 0 + 12 ≤ sl + 12 from by omega) ?_
  refine z_istore (lv' := [(6, .int r8), (0, .ref b), (1, .ref (za Y t1)), (2, .ref (za Y t2)), (3, .ref (za Y t3)), (4, .ref (za Y t4)), (5, .int v5)]) hG dL_law_2537 (by decide) rfl ?_
  refine z_aload_n hG dL_law_2539 rfl 3 rfl ?_
  refine z_aload_n hG dL_law_2540 rfl 1 rfl ?_
  refine z_iload hG dL_law_2541 6 rfl ?_
  refine z_iconst (v := 1) hG dL_law_2543 (by decide) ?_
  refine z_iadd hG dL_law_2544 ?_
  refine z_topi (fun x9 ex9 => ?_)
  have hw := hw x9 ex9
  obtain ⟨q10, hw⟩ := hw
  refine z_lawld hG hsc q10 dL_law_2545 ?_
  refine z_aload_n hG dL_law_2546 rfl 1 rfl ?_
  refine z_iload hG dL_law_2547 6 rfl ?_
  refine z_iconst (v := 2) hG dL_law_2549 (by decide) ?_
  refine z_iadd hG dL_law_2550 ?_
  refine z_topi (fun x11 ex11 => ?_)
  have hw := hw x11 ex11
  obtain ⟨q12, hw⟩ := hw
  refine z_lawld hG hsc q12 dL_law_2551 ?_
  refine z_topi (fun x13 ex13 => ?_)
  have hw := hw x13 ex13
  obtain ⟨x14, ex14⟩ : ∃ y : Int32, y = xs x9.toNatClampNeg := ⟨_, rfl⟩
  refine zst (st' := [.int x13, .int x14, .ref (za Y t2)]) (by rw [ex14] <;> rfl) ?_
  have hw := hw x14 ex14
  refine z_calli hG (z_runV (As := [.int x14, .int x13]) (st := []) hG k_L_321 (MX12_bestRate l h2 hw) ⟨(Nat.le_of_ble_eq_true rfl), (Nat.le_of_ble_eq_true rfl)⟩ h2 (T := TX12) (N := 23) rfl (by decide) rfl (Nat.le_of_ble_eq_true rfl) dL_law_2552 ⟨show cl + 2 + 0 ≤ 601024 from by omega, show sl + 12 + 0 ≤ 7293034 from by omega⟩ rfl) (fun r16 σ15 hw => ?_)
  refine z_istore (lv' := [(7, .int r16), (6, .int r8), (0, .ref b), (1, .ref (za Y t1)), (2, .ref (za Y t2)), (3, .ref (za Y t3)), (4, .ref (za Y t4)), (5, .int v5)]) hG dL_law_2555 (by decide) rfl ?_
  refine z_aload_n hG dL_law_2557 rfl 4 rfl ?_
  refine z_calli hG (z_runV (As := []) (st := []) hG k_L_149 (MX12_thrown l h2 hw) ⟨(Nat.le_of_ble_eq_true rfl), (Nat.le_of_ble_eq_true rfl)⟩ h2 (T := TX12) (N := 23) rfl (by decide) rfl (Nat.le_of_ble_eq_true rfl) dL_law_2558 ⟨show cl + 2 + 0 ≤ 601024 from by omega, show sl + 12 + 0 ≤ 7293034 from by omega⟩ rfl) (fun r18 σ17 hw => ?_)
  refine z_iload hG dL_law_2561 1 rfl ?_
  refine z_icmp_eq (tgt := 2568) hG dL_law_2563 (by decide) (fun c22 => ?_) (fun c22 => ?_)
  · have hw := hw.1 c22
    refine z_iload hG dL_law_2568 1 rfl ?_
    refine z_if_ne (tgt := 2585) hG dL_law_2570 (by decide) (fun c21 => ?_) (fun c21 => ?_)
    · have hw := hw.2 c21
      refine z_goto (tgt := 2768) hG dL_law_2585 (by decide) ?_
      refine zpick [2, 3, 4, 5, 6, 7] (lv' := [(0, .ref b), (1, .ref (za Y t1)), (2, .ref (za Y t2)), (3, .ref (za Y t3)), (4, .ref (za Y t4)), (5, .int v5)]) rfl ?_
      refine zwiden (k := cl + 2) (n := sl + 12) (by omega) (by omega) ?_
      exact BL_law_2768 hlt hG hsc hkb28 t1 t2 t3 t4 v5 Y σ17 _ _ hw hx h1 h2 h3 h4 (by omega) (by omega)
    · have hw := hw.1 c21
      refine z_aload_n hG dL_law_2573 rfl 5 rfl ?_
      refine z_iconst (v := 0) hG dL_law_2574 (by decide) ?_
      obtain ⟨q19, hw⟩ := hw
      refine z_lald hG h3 q19 dL_law_2575 ?_
      refine z_iload hG dL_law_2576 0 rfl ?_
      refine z_i2l hG dL_law_2578 ?_
      refine z_lcmp hG dL_law_2579 ?_
      refine z_if_eq (tgt := 2585) hG dL_law_2580 (by decide) (fun c20 => ?_) (fun c20 => ?_)
      · have hw := hw.1 c20
        refine z_goto (tgt := 2768) hG dL_law_2585 (by decide) ?_
        refine zpick [2, 3, 4, 5, 6, 7] (lv' := [(0, .ref b), (1, .ref (za Y t1)), (2, .ref (za Y t2)), (3, .ref (za Y t3)), (4, .ref (za Y t4)), (5, .int v5)]) rfl ?_
        refine zwiden (k := cl + 2) (n := sl + 12) (by omega) (by omega) ?_
        exact BL_law_2768 hlt hG hsc hkb28 t1 t2 t3 t4 v5 Y σ17 _ _ hw hx h1 h2 h3 h4 (by omega) (by omega)
      · have hw := hw.2 c20
        refine z_iconst (v := 0) hG dL_law_2583 (by decide) ?_
        exact hw.elim
  · have hw := hw.2 c22
    refine z_iconst (v := 0) hG dL_law_2566 (by decide) ?_
    exact hw.elim
set_option maxRecDepth 100000 in
set_option maxHeartbeats 4000000 in
theorem BL_law_2588 {l : Launch} (hlt : l.stackTraces = false) {E : zE} {Y0 : zY} {p : Program} {e : Env} {s : State} {m : MethodId} {b L : Nat} {xs : Nat → Int32} {below : List Frame} {meth : Method} {c : Code} (hG : zG E p l s m #[Value.ref b] meth c cL_law 9 RL (some .boolean) (zA Y0 s.heap.size)) (hsc : zLaw b L xs s Y0) {nf : Nat} {kb28 : Nat → Nat → Nat → Nat → Int32 → zSp → zS → Prop} (hkb28 : ∀ (t1 : Nat) (t2 : Nat) (t3 : Nat) (t4 : Nat) (v5 : Int32) (Y : zY) (σ : zS) (cl sl : Nat), kb28 t1 t2 t3 t4 v5 (zsp Y) σ → zext Y0 Y → zT Y 11 t1 → zT Y 12 t2 → zT Y 24 t3 → zT Y 25 t4 → cl + (nf * 50 + 0) ≤ 601024 → sl + (nf * 7356 + 0) ≤ 7293034 → WW E Y σ p l e room_1 s m #[Value.ref b] below meth c (zA Y0 s.heap.size) 9 cl sl (lw_Z below #[Value.ref b] s) [(0, .ref b), (1, .ref (za Y t1)), (2, .ref (za Y t2)), (3, .ref (za Y t3)), (4, .ref (za Y t4)), (5, .int v5)] 28 []) : ∀ (t1 : Nat) (t2 : Nat) (t3 : Nat) (t4 : Nat) (v5 : Int32) (Y : zY) (σ : zS) (cl sl : Nat), wL_law_2588 L xs kb28 t1 t2 t3 t4 v5 (zsp Y) σ → zext Y0 Y → zT Y 11 t1 → zT Y 12 t2 → zT Y 24 t3 → zT Y 25 t4 → cl + (2 + (nf * 50 + 0)) ≤ 601024 → sl + (12 + (nf * 7356 + 0)) ≤ 7293034 → WW E Y σ p l e room_1 s m #[Value.ref b] below meth c (zA Y0 s.heap.size) 9 cl sl (lw_Z below #[Value.ref b] s) [(0, .ref b), (1, .ref (za Y t1)), (2, .ref (za Y t2)), (3, .ref (za Y t3)), (4, .ref (za Y t4)), (5, .int v5)] 2588 [] := by
  intro t1 t2 t3 t4 v5 Y σ cl sl hw hx h1 h2 h3 h4 hcl hsl
  unfold wL_law_2588 at hw
  refine z_aload_n hG dL_law_2588 rfl 1 rfl ?_
  refine z_aload_n hG dL_law_2589 rfl 0 rfl ?_
  refine z_iload hG dL_law_2590 5 rfl ?_
  refine z_iconst (v := 1) hG dL_law_2592 (by decide) ?_
  refine z_iadd hG dL_law_2593 ?_
  refine z_topi (fun x1 ex1 => ?_)
  have hw := hw x1 ex1
  obtain ⟨q2, hw⟩ := hw
  refine z_lawld hG hsc q2 dL_law_2594 ?_
  refine z_aload_n hG dL_law_2595 rfl 0 rfl ?_
  refine z_iload hG dL_law_2596 5 rfl ?_
  refine z_iconst (v := 2) hG dL_law_2598 (by decide) ?_
  refine z_iadd hG dL_law_2599 ?_
  refine z_topi (fun x3 ex3 => ?_)
  have hw := hw x3 ex3
  obtain ⟨q4, hw⟩ := hw
  refine z_lawld hG hsc q4 dL_law_2600 ?_
  refine z_aload_n hG dL_law_2601 rfl 3 rfl ?_
  obtain ⟨x5, ex5⟩ : ∃ y : Int32, y = xs x3.toNatClampNeg := ⟨_, rfl⟩
  refine zst (st' := [.ref (za Y t3), .int x5, .int (xs x1.toNatClampNeg), .ref (za Y t1)]) (by rw [ex5] <;> rfl) ?_
  have hw := hw x5 ex5
  obtain ⟨x6, ex6⟩ : ∃ y : Int32, y = xs x1.toNatClampNeg := ⟨_, rfl⟩
  refine zst (st' := [.ref (za Y t3), .int x5, .int x6, .ref (za Y t1)]) (by rw [ex6] <;> rfl) ?_
  have hw := hw x6 ex6
  refine z_callCi hG (z_runSH (As := [.ref (za Y t1), .int x6, .int x5, .ref (za Y t3)]) (st := []) hG k_L_322 (ML_bestNudge l hlt h1 h3 hw) ⟨(Nat.le_of_ble_eq_true rfl), (Nat.le_of_ble_eq_true rfl)⟩ rfl (Nat.le_of_ble_eq_true rfl) dL_law_2602 ⟨show cl + 0 + 2 ≤ 601024 from by omega, show sl + 0 + 12 ≤ 7293034 from by omega⟩ rfl) (fun r8 σ7 hw => ?_)
  refine zwiden (k := cl + 2) (n := sl + 12) (show cl + 0 + 2 ≤ cl + 2 from by omega) (show sl + 0 + 12 ≤ sl + 12 from by omega) ?_
  refine z_istore (lv' := [(6, .int r8), (0, .ref b), (1, .ref (za Y t1)), (2, .ref (za Y t2)), (3, .ref (za Y t3)), (4, .ref (za Y t4)), (5, .int v5)]) hG dL_law_2605 (by decide) rfl ?_
  refine z_aload_n hG dL_law_2607 rfl 3 rfl ?_
  refine z_aload_n hG dL_law_2608 rfl 1 rfl ?_
  refine z_iload hG dL_law_2609 6 rfl ?_
  refine z_iconst (v := 1) hG dL_law_2611 (by decide) ?_
  refine z_iadd hG dL_law_2612 ?_
  refine z_topi (fun x9 ex9 => ?_)
  have hw := hw x9 ex9
  obtain ⟨q10, hw⟩ := hw
  refine z_lawld hG hsc q10 dL_law_2613 ?_
  refine z_aload_n hG dL_law_2614 rfl 1 rfl ?_
  refine z_iload hG dL_law_2615 6 rfl ?_
  refine z_iconst (v := 2) hG dL_law_2617 (by decide) ?_
  refine z_iadd hG dL_law_2618 ?_
  refine z_topi (fun x11 ex11 => ?_)
  have hw := hw x11 ex11
  obtain ⟨q12, hw⟩ := hw
  refine z_lawld hG hsc q12 dL_law_2619 ?_
  refine z_topi (fun x13 ex13 => ?_)
  have hw := hw x13 ex13
  obtain ⟨x14, ex14⟩ : ∃ y : Int32, y = xs x9.toNatClampNeg := ⟨_, rfl⟩
  refine zst (st' := [.int x13, .int x14, .ref (za Y t2)]) (by rw [ex14] <;> rfl) ?_
  have hw := hw x14 ex14
  refine z_calli hG (z_runV (As := [.int x14, .int x13]) (st := []) hG k_L_324 (MX12_bestNudge l h2 hw) ⟨(Nat.le_of_ble_eq_true rfl), (Nat.le_of_ble_eq_true rfl)⟩ h2 (T := TX12) (N := 23) rfl (by decide) rfl (Nat.le_of_ble_eq_true rfl) dL_law_2620 ⟨show cl + 2 + 0 ≤ 601024 from by omega, show sl + 12 + 0 ≤ 7293034 from by omega⟩ rfl) (fun r16 σ15 hw => ?_)
  refine z_istore (lv' := [(7, .int r16), (6, .int r8), (0, .ref b), (1, .ref (za Y t1)), (2, .ref (za Y t2)), (3, .ref (za Y t3)), (4, .ref (za Y t4)), (5, .int v5)]) hG dL_law_2623 (by decide) rfl ?_
  refine z_aload_n hG dL_law_2625 rfl 4 rfl ?_
  refine z_calli hG (z_runV (As := []) (st := []) hG k_L_149 (MX12_thrown l h2 hw) ⟨(Nat.le_of_ble_eq_true rfl), (Nat.le_of_ble_eq_true rfl)⟩ h2 (T := TX12) (N := 23) rfl (by decide) rfl (Nat.le_of_ble_eq_true rfl) dL_law_2626 ⟨show cl + 2 + 0 ≤ 601024 from by omega, show sl + 12 + 0 ≤ 7293034 from by omega⟩ rfl) (fun r18 σ17 hw => ?_)
  refine z_iload hG dL_law_2629 1 rfl ?_
  refine z_icmp_eq (tgt := 2636) hG dL_law_2631 (by decide) (fun c22 => ?_) (fun c22 => ?_)
  · have hw := hw.1 c22
    refine z_iload hG dL_law_2636 1 rfl ?_
    refine z_if_ne (tgt := 2653) hG dL_law_2638 (by decide) (fun c21 => ?_) (fun c21 => ?_)
    · have hw := hw.2 c21
      refine z_goto (tgt := 2768) hG dL_law_2653 (by decide) ?_
      refine zpick [2, 3, 4, 5, 6, 7] (lv' := [(0, .ref b), (1, .ref (za Y t1)), (2, .ref (za Y t2)), (3, .ref (za Y t3)), (4, .ref (za Y t4)), (5, .int v5)]) rfl ?_
      refine zwiden (k := cl + 2) (n := sl + 12) (by omega) (by omega) ?_
      exact BL_law_2768 hlt hG hsc hkb28 t1 t2 t3 t4 v5 Y σ17 _ _ hw hx h1 h2 h3 h4 (by omega) (by omega)
    · have hw := hw.1 c21
      refine z_aload_n hG dL_law_2641 rfl 5 rfl ?_
      refine z_iconst (v := 0) hG dL_law_2642 (by decide) ?_
      obtain ⟨q19, hw⟩ := hw
      refine z_lald hG h3 q19 dL_law_2643 ?_
      refine z_iload hG dL_law_2644 0 rfl ?_
      refine z_i2l hG dL_law_2646 ?_
      refine z_lcmp hG dL_law_2647 ?_
      refine z_if_eq (tgt := 2653) hG dL_law_2648 (by decide) (fun c20 => ?_) (fun c20 => ?_)
      · have hw := hw.1 c20
        refine z_goto (tgt := 2768) hG dL_law_2653 (by decide) ?_
        refine zpick [2, 3, 4, 5, 6, 7] (lv' := [(0, .ref b), (1, .ref (za Y t1)), (2, .ref (za Y t2)), (3, .ref (za Y t3)), (4, .ref (za Y t4)), (5, .int v5)]) rfl ?_
        refine zwiden (k := cl + 2) (n := sl + 12) (by omega) (by omega) ?_
        exact BL_law_2768 hlt hG hsc hkb28 t1 t2 t3 t4 v5 Y σ17 _ _ hw hx h1 h2 h3 h4 (by omega) (by omega)
      · have hw := hw.2 c20
        refine z_iconst (v := 0) hG dL_law_2651 (by decide) ?_
        exact hw.elim
  · have hw := hw.2 c22
    refine z_iconst (v := 0) hG dL_law_2634 (by decide) ?_
    exact hw.elim
set_option maxRecDepth 100000 in
set_option maxHeartbeats 4000000 in
theorem BL_law_2656 {l : Launch} (hlt : l.stackTraces = false) {E : zE} {Y0 : zY} {p : Program} {e : Env} {s : State} {m : MethodId} {b L : Nat} {xs : Nat → Int32} {below : List Frame} {meth : Method} {c : Code} (hG : zG E p l s m #[Value.ref b] meth c cL_law 9 RL (some .boolean) (zA Y0 s.heap.size)) (hsc : zLaw b L xs s Y0) {nf : Nat} {kb28 : Nat → Nat → Nat → Nat → Int32 → zSp → zS → Prop} (hkb28 : ∀ (t1 : Nat) (t2 : Nat) (t3 : Nat) (t4 : Nat) (v5 : Int32) (Y : zY) (σ : zS) (cl sl : Nat), kb28 t1 t2 t3 t4 v5 (zsp Y) σ → zext Y0 Y → zT Y 11 t1 → zT Y 12 t2 → zT Y 24 t3 → zT Y 25 t4 → cl + (nf * 50 + 0) ≤ 601024 → sl + (nf * 7356 + 0) ≤ 7293034 → WW E Y σ p l e room_1 s m #[Value.ref b] below meth c (zA Y0 s.heap.size) 9 cl sl (lw_Z below #[Value.ref b] s) [(0, .ref b), (1, .ref (za Y t1)), (2, .ref (za Y t2)), (3, .ref (za Y t3)), (4, .ref (za Y t4)), (5, .int v5)] 28 []) : ∀ (t1 : Nat) (t2 : Nat) (t3 : Nat) (t4 : Nat) (v5 : Int32) (Y : zY) (σ : zS) (cl sl : Nat), wL_law_2656 L xs kb28 t1 t2 t3 t4 v5 (zsp Y) σ → zext Y0 Y → zT Y 11 t1 → zT Y 12 t2 → zT Y 24 t3 → zT Y 25 t4 → cl + (50 + (nf * 50 + 0)) ≤ 601024 → sl + (7356 + (nf * 7356 + 0)) ≤ 7293034 → WW E Y σ p l e room_1 s m #[Value.ref b] below meth c (zA Y0 s.heap.size) 9 cl sl (lw_Z below #[Value.ref b] s) [(0, .ref b), (1, .ref (za Y t1)), (2, .ref (za Y t2)), (3, .ref (za Y t3)), (4, .ref (za Y t4)), (5, .int v5)] 2656 [] := by
  intro t1 t2 t3 t4 v5 Y σ cl sl hw hx h1 h2 h3 h4 hcl hsl
  unfold wL_law_2656 at hw
  refine z_aload_n hG dL_law_2656 rfl 1 rfl ?_
  refine z_aload_n hG dL_law_2657 rfl 0 rfl ?_
  refine z_iload hG dL_law_2658 5 rfl ?_
  refine z_iconst (v := 1) hG dL_law_2660 (by decide) ?_
  refine z_iadd hG dL_law_2661 ?_
  refine z_topi (fun x1 ex1 => ?_)
  have hw := hw x1 ex1
  obtain ⟨q2, hw⟩ := hw
  refine z_lawld hG hsc q2 dL_law_2662 ?_
  refine z_aload_n hG dL_law_2663 rfl 3 rfl ?_
  obtain ⟨x3, ex3⟩ : ∃ y : Int32, y = xs x1.toNatClampNeg := ⟨_, rfl⟩
  refine zst (st' := [.ref (za Y t3), .int x3, .ref (za Y t1)]) (by rw [ex3] <;> rfl) ?_
  have hw := hw x3 ex3
  refine z_callAi hG (z_runSH (As := [.ref (za Y t1), .int x3, .ref (za Y t3)]) (st := []) hG k_L_325 (ML_format l hlt h1 h3 hw) ⟨(Nat.le_of_ble_eq_true rfl), (Nat.le_of_ble_eq_true rfl)⟩ rfl (Nat.le_of_ble_eq_true rfl) dL_law_2664 ⟨show cl + 0 + 50 ≤ 601024 from by omega, show sl + 0 + 7356 ≤ 7293034 from by omega⟩ rfl) (fun Y4 r5 σ4 hx4 hw => ?_)
  refine zwiden (k := cl + 50) (n := sl + 7356) (show cl + 0 + 50 ≤ cl + 50 from by omega) (show sl + 0 + 7356 ≤ sl + 7356 from by omega) ?_
  refine zlv (lv' := [(0, .ref b), (1, .ref (za Y4 t1)), (2, .ref (za Y4 t2)), (3, .ref (za Y4 t3)), (4, .ref (za Y4 t4)), (5, .int v5)]) (by simp only [hx4.a h1, hx4.a h2, hx4.a h3, hx4.a h4]) ?_
  have h1 := hx4.T h1
  have h2 := hx4.T h2
  have h3 := hx4.T h3
  have h4 := hx4.T h4
  have hx := hx.tr hx4
  refine z_istore (lv' := [(6, .int r5), (0, .ref b), (1, .ref (za Y4 t1)), (2, .ref (za Y4 t2)), (3, .ref (za Y4 t3)), (4, .ref (za Y4 t4)), (5, .int v5)]) hG dL_law_2667 (by decide) rfl ?_
  refine z_aload_n hG dL_law_2669 rfl 3 rfl ?_
  refine z_aload_n hG dL_law_2670 rfl 1 rfl ?_
  refine z_iload hG dL_law_2671 6 rfl ?_
  refine z_iconst (v := 1) hG dL_law_2673 (by decide) ?_
  refine z_iadd hG dL_law_2674 ?_
  refine z_topi (fun x6 ex6 => ?_)
  have hw := hw x6 ex6
  obtain ⟨q7, hw⟩ := hw
  refine z_lawld hG hsc q7 dL_law_2675 ?_
  refine z_topi (fun x8 ex8 => ?_)
  have hw := hw x8 ex8
  refine z_calli hG (z_runV (As := [.int x8]) (st := []) hG k_L_327 (MX12_format l h2 hw) ⟨(Nat.le_of_ble_eq_true rfl), (Nat.le_of_ble_eq_true rfl)⟩ h2 (T := TX12) (N := 23) rfl (by decide) rfl (Nat.le_of_ble_eq_true rfl) dL_law_2676 ⟨show cl + 50 + 0 ≤ 601024 from by omega, show sl + 7356 + 0 ≤ 7293034 from by omega⟩ rfl) (fun r10 σ9 hw => ?_)
  refine z_istore (lv' := [(7, .int r10), (6, .int r5), (0, .ref b), (1, .ref (za Y4 t1)), (2, .ref (za Y4 t2)), (3, .ref (za Y4 t3)), (4, .ref (za Y4 t4)), (5, .int v5)]) hG dL_law_2679 (by decide) rfl ?_
  refine z_aload_n hG dL_law_2681 rfl 4 rfl ?_
  refine z_calli hG (z_runV (As := []) (st := []) hG k_L_149 (MX12_thrown l h2 hw) ⟨(Nat.le_of_ble_eq_true rfl), (Nat.le_of_ble_eq_true rfl)⟩ h2 (T := TX12) (N := 23) rfl (by decide) rfl (Nat.le_of_ble_eq_true rfl) dL_law_2682 ⟨show cl + 50 + 0 ≤ 601024 from by omega, show sl + 7356 + 0 ≤ 7293034 from by omega⟩ rfl) (fun r12 σ11 hw => ?_)
  refine z_iload hG dL_law_2685 1 rfl ?_
  refine z_icmp_eq (tgt := 2692) hG dL_law_2687 (by decide) (fun c16 => ?_) (fun c16 => ?_)
  · have hw := hw.1 c16
    refine z_iload hG dL_law_2692 1 rfl ?_
    refine z_if_ne (tgt := 2709) hG dL_law_2694 (by decide) (fun c15 => ?_) (fun c15 => ?_)
    · have hw := hw.2 c15
      refine z_goto (tgt := 2768) hG dL_law_2709 (by decide) ?_
      refine zpick [2, 3, 4, 5, 6, 7] (lv' := [(0, .ref b), (1, .ref (za Y4 t1)), (2, .ref (za Y4 t2)), (3, .ref (za Y4 t3)), (4, .ref (za Y4 t4)), (5, .int v5)]) rfl ?_
      refine zwiden (k := cl + 50) (n := sl + 7356) (by omega) (by omega) ?_
      exact BL_law_2768 hlt hG hsc hkb28 t1 t2 t3 t4 v5 Y4 σ11 _ _ hw hx h1 h2 h3 h4 (by omega) (by omega)
    · have hw := hw.1 c15
      refine z_aload_n hG dL_law_2697 rfl 5 rfl ?_
      refine z_iconst (v := 0) hG dL_law_2698 (by decide) ?_
      obtain ⟨q13, hw⟩ := hw
      refine z_lald hG h3 q13 dL_law_2699 ?_
      refine z_iload hG dL_law_2700 0 rfl ?_
      refine z_i2l hG dL_law_2702 ?_
      refine z_lcmp hG dL_law_2703 ?_
      refine z_if_eq (tgt := 2709) hG dL_law_2704 (by decide) (fun c14 => ?_) (fun c14 => ?_)
      · have hw := hw.1 c14
        refine z_goto (tgt := 2768) hG dL_law_2709 (by decide) ?_
        refine zpick [2, 3, 4, 5, 6, 7] (lv' := [(0, .ref b), (1, .ref (za Y4 t1)), (2, .ref (za Y4 t2)), (3, .ref (za Y4 t3)), (4, .ref (za Y4 t4)), (5, .int v5)]) rfl ?_
        refine zwiden (k := cl + 50) (n := sl + 7356) (by omega) (by omega) ?_
        exact BL_law_2768 hlt hG hsc hkb28 t1 t2 t3 t4 v5 Y4 σ11 _ _ hw hx h1 h2 h3 h4 (by omega) (by omega)
      · have hw := hw.2 c14
        refine z_iconst (v := 0) hG dL_law_2707 (by decide) ?_
        exact hw.elim
  · have hw := hw.2 c16
    refine z_iconst (v := 0) hG dL_law_2690 (by decide) ?_
    exact hw.elim
set_option maxRecDepth 100000 in
set_option maxHeartbeats 4000000 in
theorem BL_law_2712 {l : Launch} (hlt : l.stackTraces = false) {E : zE} {Y0 : zY} {p : Program} {e : Env} {s : State} {m : MethodId} {b L : Nat} {xs : Nat → Int32} {below : List Frame} {meth : Method} {c : Code} (hG : zG E p l s m #[Value.ref b] meth c cL_law 9 RL (some .boolean) (zA Y0 s.heap.size)) (hsc : zLaw b L xs s Y0) {nf : Nat} {kb28 : Nat → Nat → Nat → Nat → Int32 → zSp → zS → Prop} (hkb28 : ∀ (t1 : Nat) (t2 : Nat) (t3 : Nat) (t4 : Nat) (v5 : Int32) (Y : zY) (σ : zS) (cl sl : Nat), kb28 t1 t2 t3 t4 v5 (zsp Y) σ → zext Y0 Y → zT Y 11 t1 → zT Y 12 t2 → zT Y 24 t3 → zT Y 25 t4 → cl + (nf * 50 + 0) ≤ 601024 → sl + (nf * 7356 + 0) ≤ 7293034 → WW E Y σ p l e room_1 s m #[Value.ref b] below meth c (zA Y0 s.heap.size) 9 cl sl (lw_Z below #[Value.ref b] s) [(0, .ref b), (1, .ref (za Y t1)), (2, .ref (za Y t2)), (3, .ref (za Y t3)), (4, .ref (za Y t4)), (5, .int v5)] 28 []) : ∀ (t1 : Nat) (t2 : Nat) (t3 : Nat) (t4 : Nat) (v5 : Int32) (Y : zY) (σ : zS) (cl sl : Nat), wL_law_2712 L xs kb28 t1 t2 t3 t4 v5 (zsp Y) σ → zext Y0 Y → zT Y 11 t1 → zT Y 12 t2 → zT Y 24 t3 → zT Y 25 t4 → cl + (1 + (nf * 50 + 0)) ≤ 601024 → sl + (6 + (nf * 7356 + 0)) ≤ 7293034 → WW E Y σ p l e room_1 s m #[Value.ref b] below meth c (zA Y0 s.heap.size) 9 cl sl (lw_Z below #[Value.ref b] s) [(0, .ref b), (1, .ref (za Y t1)), (2, .ref (za Y t2)), (3, .ref (za Y t3)), (4, .ref (za Y t4)), (5, .int v5)] 2712 [] := by
  intro t1 t2 t3 t4 v5 Y σ cl sl hw hx h1 h2 h3 h4 hcl hsl
  unfold wL_law_2712 at hw
  refine z_aload_n hG dL_law_2712 rfl 1 rfl ?_
  refine z_aload_n hG dL_law_2713 rfl 0 rfl ?_
  refine z_iload hG dL_law_2714 5 rfl ?_
  refine z_iconst (v := 1) hG dL_law_2716 (by decide) ?_
  refine z_iadd hG dL_law_2717 ?_
  refine z_topi (fun x1 ex1 => ?_)
  have hw := hw x1 ex1
  obtain ⟨q2, hw⟩ := hw
  refine z_lawld hG hsc q2 dL_law_2718 ?_
  refine z_aload_n hG dL_law_2719 rfl 3 rfl ?_
  obtain ⟨x3, ex3⟩ : ∃ y : Int32, y = xs x1.toNatClampNeg := ⟨_, rfl⟩
  refine zst (st' := [.ref (za Y t3), .int x3, .ref (za Y t1)]) (by rw [ex3] <;> rfl) ?_
  have hw := hw x3 ex3
  refine z_callCi hG (z_runSH (As := [.ref (za Y t1), .int x3, .ref (za Y t3)]) (st := []) hG k_L_328 (ML_formattedCharacter l hlt h1 h3 hw) ⟨(Nat.le_of_ble_eq_true rfl), (Nat.le_of_ble_eq_true rfl)⟩ rfl (Nat.le_of_ble_eq_true rfl) dL_law_2720 ⟨show cl + 0 + 1 ≤ 601024 from by omega, show sl + 0 + 6 ≤ 7293034 from by omega⟩ rfl) (fun r5 σ4 hw => ?_)
  refine zwiden (k := cl + 1) (n := sl + 6) (show cl + 0 + 1 ≤ cl + 1 from by omega) (show sl + 0 + 6 ≤ sl + 6 from by omega) ?_
  refine z_istore (lv' := [(6, .int r5), (0, .ref b), (1, .ref (za Y t1)), (2, .ref (za Y t2)), (3, .ref (za Y t3)), (4, .ref (za Y t4)), (5, .int v5)]) hG dL_law_2723 (by decide) rfl ?_
  refine z_aload_n hG dL_law_2725 rfl 3 rfl ?_
  refine z_aload_n hG dL_law_2726 rfl 1 rfl ?_
  refine z_iload hG dL_law_2727 6 rfl ?_
  refine z_iconst (v := 1) hG dL_law_2729 (by decide) ?_
  refine z_iadd hG dL_law_2730 ?_
  refine z_topi (fun x6 ex6 => ?_)
  have hw := hw x6 ex6
  obtain ⟨q7, hw⟩ := hw
  refine z_lawld hG hsc q7 dL_law_2731 ?_
  refine z_topi (fun x8 ex8 => ?_)
  have hw := hw x8 ex8
  refine z_calli hG (z_runV (As := [.int x8]) (st := []) hG k_L_330 (MX12_formattedCharacter l h2 hw) ⟨(Nat.le_of_ble_eq_true rfl), (Nat.le_of_ble_eq_true rfl)⟩ h2 (T := TX12) (N := 23) rfl (by decide) rfl (Nat.le_of_ble_eq_true rfl) dL_law_2732 ⟨show cl + 1 + 0 ≤ 601024 from by omega, show sl + 6 + 0 ≤ 7293034 from by omega⟩ rfl) (fun r10 σ9 hw => ?_)
  refine z_istore (lv' := [(7, .int r10), (6, .int r5), (0, .ref b), (1, .ref (za Y t1)), (2, .ref (za Y t2)), (3, .ref (za Y t3)), (4, .ref (za Y t4)), (5, .int v5)]) hG dL_law_2735 (by decide) rfl ?_
  refine z_aload_n hG dL_law_2737 rfl 4 rfl ?_
  refine z_calli hG (z_runV (As := []) (st := []) hG k_L_149 (MX12_thrown l h2 hw) ⟨(Nat.le_of_ble_eq_true rfl), (Nat.le_of_ble_eq_true rfl)⟩ h2 (T := TX12) (N := 23) rfl (by decide) rfl (Nat.le_of_ble_eq_true rfl) dL_law_2738 ⟨show cl + 1 + 0 ≤ 601024 from by omega, show sl + 6 + 0 ≤ 7293034 from by omega⟩ rfl) (fun r12 σ11 hw => ?_)
  refine z_iload hG dL_law_2741 1 rfl ?_
  refine z_icmp_eq (tgt := 2748) hG dL_law_2743 (by decide) (fun c16 => ?_) (fun c16 => ?_)
  · have hw := hw.1 c16
    refine z_iload hG dL_law_2748 1 rfl ?_
    refine z_if_ne (tgt := 2765) hG dL_law_2750 (by decide) (fun c15 => ?_) (fun c15 => ?_)
    · have hw := hw.2 c15
      refine z_goto (tgt := 2768) hG dL_law_2765 (by decide) ?_
      refine zpick [2, 3, 4, 5, 6, 7] (lv' := [(0, .ref b), (1, .ref (za Y t1)), (2, .ref (za Y t2)), (3, .ref (za Y t3)), (4, .ref (za Y t4)), (5, .int v5)]) rfl ?_
      refine zwiden (k := cl + 1) (n := sl + 6) (by omega) (by omega) ?_
      exact BL_law_2768 hlt hG hsc hkb28 t1 t2 t3 t4 v5 Y σ11 _ _ hw hx h1 h2 h3 h4 (by omega) (by omega)
    · have hw := hw.1 c15
      refine z_aload_n hG dL_law_2753 rfl 5 rfl ?_
      refine z_iconst (v := 0) hG dL_law_2754 (by decide) ?_
      obtain ⟨q13, hw⟩ := hw
      refine z_lald hG h3 q13 dL_law_2755 ?_
      refine z_iload hG dL_law_2756 0 rfl ?_
      refine z_i2l hG dL_law_2758 ?_
      refine z_lcmp hG dL_law_2759 ?_
      refine z_if_eq (tgt := 2765) hG dL_law_2760 (by decide) (fun c14 => ?_) (fun c14 => ?_)
      · have hw := hw.1 c14
        refine z_goto (tgt := 2768) hG dL_law_2765 (by decide) ?_
        refine zpick [2, 3, 4, 5, 6, 7] (lv' := [(0, .ref b), (1, .ref (za Y t1)), (2, .ref (za Y t2)), (3, .ref (za Y t3)), (4, .ref (za Y t4)), (5, .int v5)]) rfl ?_
        refine zwiden (k := cl + 1) (n := sl + 6) (by omega) (by omega) ?_
        exact BL_law_2768 hlt hG hsc hkb28 t1 t2 t3 t4 v5 Y σ11 _ _ hw hx h1 h2 h3 h4 (by omega) (by omega)
      · have hw := hw.2 c14
        refine z_iconst (v := 0) hG dL_law_2763 (by decide) ?_
        exact hw.elim
  · have hw := hw.2 c16
    refine z_iconst (v := 0) hG dL_law_2746 (by decide) ?_
    exact hw.elim
set_option maxRecDepth 100000 in
set_option maxHeartbeats 4000000 in
theorem BL_law_28 {l : Launch} (hlt : l.stackTraces = false) {E : zE} {Y0 : zY} {p : Program} {e : Env} {s : State} {m : MethodId} {b L : Nat} {xs : Nat → Int32} {below : List Frame} {meth : Method} {c : Code} (hG : zG E p l s m #[Value.ref b] meth c cL_law 9 RL (some .boolean) (zA Y0 s.heap.size)) (hsc : zLaw b L xs s Y0) : ∀ (n : Nat) (t1 : Nat) (t2 : Nat) (t3 : Nat) (t4 : Nat) (v5 : Int32) (Y : zY) (σ : zS) (cl sl : Nat), wL_law_28 L xs n t1 t2 t3 t4 v5 (zsp Y) σ → zext Y0 Y → zT Y 11 t1 → zT Y 12 t2 → zT Y 24 t3 → zT Y 25 t4 → cl + (n * 50 + 0) ≤ 601024 → sl + (n * 7356 + 0) ≤ 7293034 → WW E Y σ p l e room_1 s m #[Value.ref b] below meth c (zA Y0 s.heap.size) 9 cl sl (lw_Z below #[Value.ref b] s) [(0, .ref b), (1, .ref (za Y t1)), (2, .ref (za Y t2)), (3, .ref (za Y t3)), (4, .ref (za Y t4)), (5, .int v5)] 28 [] := by
  intro n
  induction n with
  | zero => intro t1 t2 t3 t4 v5 Y σ cl sl hw
            exact hw.elim
  | succ n ih =>
    intro t1 t2 t3 t4 v5 Y σ cl sl hw hx h1 h2 h3 h4 hcl hsl
    rw [wL_law_28] at hw
    refine z_iload hG dL_law_28 5 rfl ?_
    refine z_aload_n hG dL_law_30 rfl 0 rfl ?_
    refine z_lawlen hG hsc dL_law_31 ?_
    refine z_bipush (v := 6) hG dL_law_32 (by decide) ?_
    refine z_isub hG dL_law_34 ?_
    refine z_icmp_gt (tgt := 2774) hG dL_law_35 (by decide) (fun c56 => ?_) (fun c56 => ?_)
    · have hw := hw.1 c56
      refine z_iconst (v := 1) hG dL_law_2774 (by decide) ?_
      exact z_lawret hG hsc dL_law_2775 (by omega) (by omega)
    · have hw := hw.2 c56
      refine z_aload_n hG dL_law_38 rfl 0 rfl ?_
      refine z_iload hG dL_law_39 5 rfl ?_
      obtain ⟨q1, hw⟩ := hw
      refine z_lawld hG hsc q1 dL_law_41 ?_
      refine z_bipush (v := 63) hG dL_law_42 (by decide) ?_
      refine z_iand hG dL_law_44 ?_
      refine z_topi (fun x2 ex2 => ?_)
      have hw := hw x2 ex2
      by_cases c3 : x2 = 0
      · have hw := hw.1 c3
        refine z_tsw hG dL_law_45 (tgt := 272) (by rw [c3]; decide +kernel) (by rw [c3]; decide +kernel) (off := 227) (by rw [c3]; decide +kernel) (by decide) ?_
        refine zpick [0, 1, 2, 3, 4, 5] (lv' := [(0, .ref b), (1, .ref (za Y t1)), (2, .ref (za Y t2)), (3, .ref (za Y t3)), (4, .ref (za Y t4)), (5, .int v5)]) rfl ?_
        exact BL_law_272 hlt hG hsc ih t1 t2 t3 t4 v5 Y σ _ _ hw hx h1 h2 h3 h4 (by omega) (by omega)
      have hw := hw.2 c3
      by_cases c4 : x2 = 1
      · have hw := hw.1 c4
        refine z_tsw hG dL_law_45 (tgt := 376) (by rw [c4]; decide +kernel) (by rw [c4]; decide +kernel) (off := 331) (by rw [c4]; decide +kernel) (by decide) ?_
        refine zpick [0, 1, 2, 3, 4, 5] (lv' := [(0, .ref b), (1, .ref (za Y t1)), (2, .ref (za Y t2)), (3, .ref (za Y t3)), (4, .ref (za Y t4)), (5, .int v5)]) rfl ?_
        exact BL_law_376 hlt hG hsc ih t1 t2 t3 t4 v5 Y σ _ _ hw hx h1 h2 h3 h4 (by omega) (by omega)
      have hw := hw.2 c4
      by_cases c5 : x2 = 2
      · have hw := hw.1 c5
        refine z_tsw hG dL_law_45 (tgt := 412) (by rw [c5]; decide +kernel) (by rw [c5]; decide +kernel) (off := 367) (by rw [c5]; decide +kernel) (by decide) ?_
        refine zpick [0, 1, 2, 3, 4, 5] (lv' := [(0, .ref b), (1, .ref (za Y t1)), (2, .ref (za Y t2)), (3, .ref (za Y t3)), (4, .ref (za Y t4)), (5, .int v5)]) rfl ?_
        exact BL_law_412 hlt hG hsc ih t1 t2 t3 t4 v5 Y σ _ _ hw hx h1 h2 h3 h4 (by omega) (by omega)
      have hw := hw.2 c5
      by_cases c6 : x2 = 3
      · have hw := hw.1 c6
        refine z_tsw hG dL_law_45 (tgt := 456) (by rw [c6]; decide +kernel) (by rw [c6]; decide +kernel) (off := 411) (by rw [c6]; decide +kernel) (by decide) ?_
        refine zpick [0, 1, 2, 3, 4, 5] (lv' := [(0, .ref b), (1, .ref (za Y t1)), (2, .ref (za Y t2)), (3, .ref (za Y t3)), (4, .ref (za Y t4)), (5, .int v5)]) rfl ?_
        exact BL_law_456 hlt hG hsc ih t1 t2 t3 t4 v5 Y σ _ _ hw hx h1 h2 h3 h4 (by omega) (by omega)
      have hw := hw.2 c6
      by_cases c7 : x2 = 4
      · have hw := hw.1 c7
        refine z_tsw hG dL_law_45 (tgt := 469) (by rw [c7]; decide +kernel) (by rw [c7]; decide +kernel) (off := 424) (by rw [c7]; decide +kernel) (by decide) ?_
        refine zpick [0, 1, 2, 3, 4, 5] (lv' := [(0, .ref b), (1, .ref (za Y t1)), (2, .ref (za Y t2)), (3, .ref (za Y t3)), (4, .ref (za Y t4)), (5, .int v5)]) rfl ?_
        exact BL_law_469 hlt hG hsc ih t1 t2 t3 t4 v5 Y σ _ _ hw hx h1 h2 h3 h4 (by omega) (by omega)
      have hw := hw.2 c7
      by_cases c8 : x2 = 5
      · have hw := hw.1 c8
        refine z_tsw hG dL_law_45 (tgt := 482) (by rw [c8]; decide +kernel) (by rw [c8]; decide +kernel) (off := 437) (by rw [c8]; decide +kernel) (by decide) ?_
        refine zpick [0, 1, 2, 3, 4, 5] (lv' := [(0, .ref b), (1, .ref (za Y t1)), (2, .ref (za Y t2)), (3, .ref (za Y t3)), (4, .ref (za Y t4)), (5, .int v5)]) rfl ?_
        exact BL_law_482 hlt hG hsc ih t1 t2 t3 t4 v5 Y σ _ _ hw hx h1 h2 h3 h4 (by omega) (by omega)
      have hw := hw.2 c8
      by_cases c9 : x2 = 6
      · have hw := hw.1 c9
        refine z_tsw hG dL_law_45 (tgt := 495) (by rw [c9]; decide +kernel) (by rw [c9]; decide +kernel) (off := 450) (by rw [c9]; decide +kernel) (by decide) ?_
        refine zpick [0, 1, 2, 3, 4, 5] (lv' := [(0, .ref b), (1, .ref (za Y t1)), (2, .ref (za Y t2)), (3, .ref (za Y t3)), (4, .ref (za Y t4)), (5, .int v5)]) rfl ?_
        exact BL_law_495 hlt hG hsc ih t1 t2 t3 t4 v5 Y σ _ _ hw hx h1 h2 h3 h4 (by omega) (by omega)
      have hw := hw.2 c9
      by_cases c10 : x2 = 7
      · have hw := hw.1 c10
        refine z_tsw hG dL_law_45 (tgt := 551) (by rw [c10]; decide +kernel) (by rw [c10]; decide +kernel) (off := 506) (by rw [c10]; decide +kernel) (by decide) ?_
        refine zpick [0, 1, 2, 3, 4, 5] (lv' := [(0, .ref b), (1, .ref (za Y t1)), (2, .ref (za Y t2)), (3, .ref (za Y t3)), (4, .ref (za Y t4)), (5, .int v5)]) rfl ?_
        exact BL_law_551 hlt hG hsc ih t1 t2 t3 t4 v5 Y σ _ _ hw hx h1 h2 h3 h4 (by omega) (by omega)
      have hw := hw.2 c10
      by_cases c11 : x2 = 8
      · have hw := hw.1 c11
        refine z_tsw hG dL_law_45 (tgt := 607) (by rw [c11]; decide +kernel) (by rw [c11]; decide +kernel) (off := 562) (by rw [c11]; decide +kernel) (by decide) ?_
        refine zpick [0, 1, 2, 3, 4, 5] (lv' := [(0, .ref b), (1, .ref (za Y t1)), (2, .ref (za Y t2)), (3, .ref (za Y t3)), (4, .ref (za Y t4)), (5, .int v5)]) rfl ?_
        exact BL_law_607 hlt hG hsc ih t1 t2 t3 t4 v5 Y σ _ _ hw hx h1 h2 h3 h4 (by omega) (by omega)
      have hw := hw.2 c11
      by_cases c12 : x2 = 9
      · have hw := hw.1 c12
        refine z_tsw hG dL_law_45 (tgt := 663) (by rw [c12]; decide +kernel) (by rw [c12]; decide +kernel) (off := 618) (by rw [c12]; decide +kernel) (by decide) ?_
        refine zpick [0, 1, 2, 3, 4, 5] (lv' := [(0, .ref b), (1, .ref (za Y t1)), (2, .ref (za Y t2)), (3, .ref (za Y t3)), (4, .ref (za Y t4)), (5, .int v5)]) rfl ?_
        exact BL_law_663 hlt hG hsc ih t1 t2 t3 t4 v5 Y σ _ _ hw hx h1 h2 h3 h4 (by omega) (by omega)
      have hw := hw.2 c12
      by_cases c13 : x2 = 10
      · have hw := hw.1 c13
        refine z_tsw hG dL_law_45 (tgt := 747) (by rw [c13]; decide +kernel) (by rw [c13]; decide +kernel) (off := 702) (by rw [c13]; decide +kernel) (by decide) ?_
        refine zpick [0, 1, 2, 3, 4, 5] (lv' := [(0, .ref b), (1, .ref (za Y t1)), (2, .ref (za Y t2)), (3, .ref (za Y t3)), (4, .ref (za Y t4)), (5, .int v5)]) rfl ?_
        exact BL_law_747 hlt hG hsc ih t1 t2 t3 t4 v5 Y σ _ _ hw hx h1 h2 h3 h4 (by omega) (by omega)
      have hw := hw.2 c13
      by_cases c14 : x2 = 11
      · have hw := hw.1 c14
        refine z_tsw hG dL_law_45 (tgt := 760) (by rw [c14]; decide +kernel) (by rw [c14]; decide +kernel) (off := 715) (by rw [c14]; decide +kernel) (by decide) ?_
        refine zpick [0, 1, 2, 3, 4, 5] (lv' := [(0, .ref b), (1, .ref (za Y t1)), (2, .ref (za Y t2)), (3, .ref (za Y t3)), (4, .ref (za Y t4)), (5, .int v5)]) rfl ?_
        exact BL_law_760 hlt hG hsc ih t1 t2 t3 t4 v5 Y σ _ _ hw hx h1 h2 h3 h4 (by omega) (by omega)
      have hw := hw.2 c14
      by_cases c15 : x2 = 12
      · have hw := hw.1 c15
        refine z_tsw hG dL_law_45 (tgt := 816) (by rw [c15]; decide +kernel) (by rw [c15]; decide +kernel) (off := 771) (by rw [c15]; decide +kernel) (by decide) ?_
        refine zpick [0, 1, 2, 3, 4, 5] (lv' := [(0, .ref b), (1, .ref (za Y t1)), (2, .ref (za Y t2)), (3, .ref (za Y t3)), (4, .ref (za Y t4)), (5, .int v5)]) rfl ?_
        exact BL_law_816 hlt hG hsc ih t1 t2 t3 t4 v5 Y σ _ _ hw hx h1 h2 h3 h4 (by omega) (by omega)
      have hw := hw.2 c15
      by_cases c16 : x2 = 13
      · have hw := hw.1 c16
        refine z_tsw hG dL_law_45 (tgt := 872) (by rw [c16]; decide +kernel) (by rw [c16]; decide +kernel) (off := 827) (by rw [c16]; decide +kernel) (by decide) ?_
        refine zpick [0, 1, 2, 3, 4, 5] (lv' := [(0, .ref b), (1, .ref (za Y t1)), (2, .ref (za Y t2)), (3, .ref (za Y t3)), (4, .ref (za Y t4)), (5, .int v5)]) rfl ?_
        exact BL_law_872 hlt hG hsc ih t1 t2 t3 t4 v5 Y σ _ _ hw hx h1 h2 h3 h4 (by omega) (by omega)
      have hw := hw.2 c16
      by_cases c17 : x2 = 14
      · have hw := hw.1 c17
        refine z_tsw hG dL_law_45 (tgt := 940) (by rw [c17]; decide +kernel) (by rw [c17]; decide +kernel) (off := 895) (by rw [c17]; decide +kernel) (by decide) ?_
        refine zpick [0, 1, 2, 3, 4, 5] (lv' := [(0, .ref b), (1, .ref (za Y t1)), (2, .ref (za Y t2)), (3, .ref (za Y t3)), (4, .ref (za Y t4)), (5, .int v5)]) rfl ?_
        exact BL_law_940 hlt hG hsc ih t1 t2 t3 t4 v5 Y σ _ _ hw hx h1 h2 h3 h4 (by omega) (by omega)
      have hw := hw.2 c17
      by_cases c18 : x2 = 15
      · have hw := hw.1 c18
        refine z_tsw hG dL_law_45 (tgt := 1008) (by rw [c18]; decide +kernel) (by rw [c18]; decide +kernel) (off := 963) (by rw [c18]; decide +kernel) (by decide) ?_
        refine zpick [0, 1, 2, 3, 4, 5] (lv' := [(0, .ref b), (1, .ref (za Y t1)), (2, .ref (za Y t2)), (3, .ref (za Y t3)), (4, .ref (za Y t4)), (5, .int v5)]) rfl ?_
        exact BL_law_1008 hlt hG hsc ih t1 t2 t3 t4 v5 Y σ _ _ hw hx h1 h2 h3 h4 (by omega) (by omega)
      have hw := hw.2 c18
      by_cases c19 : x2 = 16
      · have hw := hw.1 c19
        refine z_tsw hG dL_law_45 (tgt := 1088) (by rw [c19]; decide +kernel) (by rw [c19]; decide +kernel) (off := 1043) (by rw [c19]; decide +kernel) (by decide) ?_
        refine zpick [0, 1, 2, 3, 4, 5] (lv' := [(0, .ref b), (1, .ref (za Y t1)), (2, .ref (za Y t2)), (3, .ref (za Y t3)), (4, .ref (za Y t4)), (5, .int v5)]) rfl ?_
        exact BL_law_1088 hlt hG hsc ih t1 t2 t3 t4 v5 Y σ _ _ hw hx h1 h2 h3 h4 (by omega) (by omega)
      have hw := hw.2 c19
      by_cases c20 : x2 = 17
      · have hw := hw.1 c20
        refine z_tsw hG dL_law_45 (tgt := 1156) (by rw [c20]; decide +kernel) (by rw [c20]; decide +kernel) (off := 1111) (by rw [c20]; decide +kernel) (by decide) ?_
        refine zpick [0, 1, 2, 3, 4, 5] (lv' := [(0, .ref b), (1, .ref (za Y t1)), (2, .ref (za Y t2)), (3, .ref (za Y t3)), (4, .ref (za Y t4)), (5, .int v5)]) rfl ?_
        exact BL_law_1156 hlt hG hsc ih t1 t2 t3 t4 v5 Y σ _ _ hw hx h1 h2 h3 h4 (by omega) (by omega)
      have hw := hw.2 c20
      by_cases c21 : x2 = 18
      · have hw := hw.1 c21
        refine z_tsw hG dL_law_45 (tgt := 1212) (by rw [c21]; decide +kernel) (by rw [c21]; decide +kernel) (off := 1167) (by rw [c21]; decide +kernel) (by decide) ?_
        refine zpick [0, 1, 2, 3, 4, 5] (lv' := [(0, .ref b), (1, .ref (za Y t1)), (2, .ref (za Y t2)), (3, .ref (za Y t3)), (4, .ref (za Y t4)), (5, .int v5)]) rfl ?_
        exact BL_law_1212 hlt hG hsc ih t1 t2 t3 t4 v5 Y σ _ _ hw hx h1 h2 h3 h4 (by omega) (by omega)
      have hw := hw.2 c21
      by_cases c22 : x2 = 19
      · have hw := hw.1 c22
        refine z_tsw hG dL_law_45 (tgt := 1225) (by rw [c22]; decide +kernel) (by rw [c22]; decide +kernel) (off := 1180) (by rw [c22]; decide +kernel) (by decide) ?_
        refine zpick [0, 1, 2, 3, 4, 5] (lv' := [(0, .ref b), (1, .ref (za Y t1)), (2, .ref (za Y t2)), (3, .ref (za Y t3)), (4, .ref (za Y t4)), (5, .int v5)]) rfl ?_
        exact BL_law_1225 hlt hG hsc ih t1 t2 t3 t4 v5 Y σ _ _ hw hx h1 h2 h3 h4 (by omega) (by omega)
      have hw := hw.2 c22
      by_cases c23 : x2 = 20
      · have hw := hw.1 c23
        refine z_tsw hG dL_law_45 (tgt := 1238) (by rw [c23]; decide +kernel) (by rw [c23]; decide +kernel) (off := 1193) (by rw [c23]; decide +kernel) (by decide) ?_
        refine zpick [0, 1, 2, 3, 4, 5] (lv' := [(0, .ref b), (1, .ref (za Y t1)), (2, .ref (za Y t2)), (3, .ref (za Y t3)), (4, .ref (za Y t4)), (5, .int v5)]) rfl ?_
        exact BL_law_1238 hlt hG hsc ih t1 t2 t3 t4 v5 Y σ _ _ hw hx h1 h2 h3 h4 (by omega) (by omega)
      have hw := hw.2 c23
      by_cases c24 : x2 = 21
      · have hw := hw.1 c24
        refine z_tsw hG dL_law_45 (tgt := 1251) (by rw [c24]; decide +kernel) (by rw [c24]; decide +kernel) (off := 1206) (by rw [c24]; decide +kernel) (by decide) ?_
        refine zpick [0, 1, 2, 3, 4, 5] (lv' := [(0, .ref b), (1, .ref (za Y t1)), (2, .ref (za Y t2)), (3, .ref (za Y t3)), (4, .ref (za Y t4)), (5, .int v5)]) rfl ?_
        exact BL_law_1251 hlt hG hsc ih t1 t2 t3 t4 v5 Y σ _ _ hw hx h1 h2 h3 h4 (by omega) (by omega)
      have hw := hw.2 c24
      by_cases c25 : x2 = 22
      · have hw := hw.1 c25
        refine z_tsw hG dL_law_45 (tgt := 1264) (by rw [c25]; decide +kernel) (by rw [c25]; decide +kernel) (off := 1219) (by rw [c25]; decide +kernel) (by decide) ?_
        refine zpick [0, 1, 2, 3, 4, 5] (lv' := [(0, .ref b), (1, .ref (za Y t1)), (2, .ref (za Y t2)), (3, .ref (za Y t3)), (4, .ref (za Y t4)), (5, .int v5)]) rfl ?_
        exact BL_law_1264 hlt hG hsc ih t1 t2 t3 t4 v5 Y σ _ _ hw hx h1 h2 h3 h4 (by omega) (by omega)
      have hw := hw.2 c25
      by_cases c26 : x2 = 23
      · have hw := hw.1 c26
        refine z_tsw hG dL_law_45 (tgt := 1277) (by rw [c26]; decide +kernel) (by rw [c26]; decide +kernel) (off := 1232) (by rw [c26]; decide +kernel) (by decide) ?_
        refine zpick [0, 1, 2, 3, 4, 5] (lv' := [(0, .ref b), (1, .ref (za Y t1)), (2, .ref (za Y t2)), (3, .ref (za Y t3)), (4, .ref (za Y t4)), (5, .int v5)]) rfl ?_
        exact BL_law_1277 hlt hG hsc ih t1 t2 t3 t4 v5 Y σ _ _ hw hx h1 h2 h3 h4 (by omega) (by omega)
      have hw := hw.2 c26
      by_cases c27 : x2 = 24
      · have hw := hw.1 c27
        refine z_tsw hG dL_law_45 (tgt := 1290) (by rw [c27]; decide +kernel) (by rw [c27]; decide +kernel) (off := 1245) (by rw [c27]; decide +kernel) (by decide) ?_
        refine zpick [0, 1, 2, 3, 4, 5] (lv' := [(0, .ref b), (1, .ref (za Y t1)), (2, .ref (za Y t2)), (3, .ref (za Y t3)), (4, .ref (za Y t4)), (5, .int v5)]) rfl ?_
        exact BL_law_1290 hlt hG hsc ih t1 t2 t3 t4 v5 Y σ _ _ hw hx h1 h2 h3 h4 (by omega) (by omega)
      have hw := hw.2 c27
      by_cases c28 : x2 = 25
      · have hw := hw.1 c28
        refine z_tsw hG dL_law_45 (tgt := 1303) (by rw [c28]; decide +kernel) (by rw [c28]; decide +kernel) (off := 1258) (by rw [c28]; decide +kernel) (by decide) ?_
        refine zpick [0, 1, 2, 3, 4, 5] (lv' := [(0, .ref b), (1, .ref (za Y t1)), (2, .ref (za Y t2)), (3, .ref (za Y t3)), (4, .ref (za Y t4)), (5, .int v5)]) rfl ?_
        exact BL_law_1303 hlt hG hsc ih t1 t2 t3 t4 v5 Y σ _ _ hw hx h1 h2 h3 h4 (by omega) (by omega)
      have hw := hw.2 c28
      by_cases c29 : x2 = 26
      · have hw := hw.1 c29
        refine z_tsw hG dL_law_45 (tgt := 1316) (by rw [c29]; decide +kernel) (by rw [c29]; decide +kernel) (off := 1271) (by rw [c29]; decide +kernel) (by decide) ?_
        refine zpick [0, 1, 2, 3, 4, 5] (lv' := [(0, .ref b), (1, .ref (za Y t1)), (2, .ref (za Y t2)), (3, .ref (za Y t3)), (4, .ref (za Y t4)), (5, .int v5)]) rfl ?_
        exact BL_law_1316 hlt hG hsc ih t1 t2 t3 t4 v5 Y σ _ _ hw hx h1 h2 h3 h4 (by omega) (by omega)
      have hw := hw.2 c29
      by_cases c30 : x2 = 27
      · have hw := hw.1 c30
        refine z_tsw hG dL_law_45 (tgt := 1372) (by rw [c30]; decide +kernel) (by rw [c30]; decide +kernel) (off := 1327) (by rw [c30]; decide +kernel) (by decide) ?_
        refine zpick [0, 1, 2, 3, 4, 5] (lv' := [(0, .ref b), (1, .ref (za Y t1)), (2, .ref (za Y t2)), (3, .ref (za Y t3)), (4, .ref (za Y t4)), (5, .int v5)]) rfl ?_
        exact BL_law_1372 hlt hG hsc ih t1 t2 t3 t4 v5 Y σ _ _ hw hx h1 h2 h3 h4 (by omega) (by omega)
      have hw := hw.2 c30
      by_cases c31 : x2 = 28
      · have hw := hw.1 c31
        refine z_tsw hG dL_law_45 (tgt := 1428) (by rw [c31]; decide +kernel) (by rw [c31]; decide +kernel) (off := 1383) (by rw [c31]; decide +kernel) (by decide) ?_
        refine zpick [0, 1, 2, 3, 4, 5] (lv' := [(0, .ref b), (1, .ref (za Y t1)), (2, .ref (za Y t2)), (3, .ref (za Y t3)), (4, .ref (za Y t4)), (5, .int v5)]) rfl ?_
        exact BL_law_1428 hlt hG hsc ih t1 t2 t3 t4 v5 Y σ _ _ hw hx h1 h2 h3 h4 (by omega) (by omega)
      have hw := hw.2 c31
      by_cases c32 : x2 = 29
      · have hw := hw.1 c32
        refine z_tsw hG dL_law_45 (tgt := 1496) (by rw [c32]; decide +kernel) (by rw [c32]; decide +kernel) (off := 1451) (by rw [c32]; decide +kernel) (by decide) ?_
        refine zpick [0, 1, 2, 3, 4, 5] (lv' := [(0, .ref b), (1, .ref (za Y t1)), (2, .ref (za Y t2)), (3, .ref (za Y t3)), (4, .ref (za Y t4)), (5, .int v5)]) rfl ?_
        exact BL_law_1496 hlt hG hsc ih t1 t2 t3 t4 v5 Y σ _ _ hw hx h1 h2 h3 h4 (by omega) (by omega)
      have hw := hw.2 c32
      by_cases c33 : x2 = 30
      · have hw := hw.1 c33
        refine z_tsw hG dL_law_45 (tgt := 1509) (by rw [c33]; decide +kernel) (by rw [c33]; decide +kernel) (off := 1464) (by rw [c33]; decide +kernel) (by decide) ?_
        refine zpick [0, 1, 2, 3, 4, 5] (lv' := [(0, .ref b), (1, .ref (za Y t1)), (2, .ref (za Y t2)), (3, .ref (za Y t3)), (4, .ref (za Y t4)), (5, .int v5)]) rfl ?_
        exact BL_law_1509 hlt hG hsc ih t1 t2 t3 t4 v5 Y σ _ _ hw hx h1 h2 h3 h4 (by omega) (by omega)
      have hw := hw.2 c33
      by_cases c34 : x2 = 31
      · have hw := hw.1 c34
        refine z_tsw hG dL_law_45 (tgt := 1522) (by rw [c34]; decide +kernel) (by rw [c34]; decide +kernel) (off := 1477) (by rw [c34]; decide +kernel) (by decide) ?_
        refine zpick [0, 1, 2, 3, 4, 5] (lv' := [(0, .ref b), (1, .ref (za Y t1)), (2, .ref (za Y t2)), (3, .ref (za Y t3)), (4, .ref (za Y t4)), (5, .int v5)]) rfl ?_
        exact BL_law_1522 hlt hG hsc ih t1 t2 t3 t4 v5 Y σ _ _ hw hx h1 h2 h3 h4 (by omega) (by omega)
      have hw := hw.2 c34
      by_cases c35 : x2 = 32
      · have hw := hw.1 c35
        refine z_tsw hG dL_law_45 (tgt := 1578) (by rw [c35]; decide +kernel) (by rw [c35]; decide +kernel) (off := 1533) (by rw [c35]; decide +kernel) (by decide) ?_
        refine zpick [0, 1, 2, 3, 4, 5] (lv' := [(0, .ref b), (1, .ref (za Y t1)), (2, .ref (za Y t2)), (3, .ref (za Y t3)), (4, .ref (za Y t4)), (5, .int v5)]) rfl ?_
        exact BL_law_1578 hlt hG hsc ih t1 t2 t3 t4 v5 Y σ _ _ hw hx h1 h2 h3 h4 (by omega) (by omega)
      have hw := hw.2 c35
      by_cases c36 : x2 = 33
      · have hw := hw.1 c36
        refine z_tsw hG dL_law_45 (tgt := 1634) (by rw [c36]; decide +kernel) (by rw [c36]; decide +kernel) (off := 1589) (by rw [c36]; decide +kernel) (by decide) ?_
        refine zpick [0, 1, 2, 3, 4, 5] (lv' := [(0, .ref b), (1, .ref (za Y t1)), (2, .ref (za Y t2)), (3, .ref (za Y t3)), (4, .ref (za Y t4)), (5, .int v5)]) rfl ?_
        exact BL_law_1634 hlt hG hsc ih t1 t2 t3 t4 v5 Y σ _ _ hw hx h1 h2 h3 h4 (by omega) (by omega)
      have hw := hw.2 c36
      by_cases c37 : x2 = 34
      · have hw := hw.1 c37
        refine z_tsw hG dL_law_45 (tgt := 1690) (by rw [c37]; decide +kernel) (by rw [c37]; decide +kernel) (off := 1645) (by rw [c37]; decide +kernel) (by decide) ?_
        refine zpick [0, 1, 2, 3, 4, 5] (lv' := [(0, .ref b), (1, .ref (za Y t1)), (2, .ref (za Y t2)), (3, .ref (za Y t3)), (4, .ref (za Y t4)), (5, .int v5)]) rfl ?_
        exact BL_law_1690 hlt hG hsc ih t1 t2 t3 t4 v5 Y σ _ _ hw hx h1 h2 h3 h4 (by omega) (by omega)
      have hw := hw.2 c37
      by_cases c38 : x2 = 35
      · have hw := hw.1 c38
        refine z_tsw hG dL_law_45 (tgt := 1767) (by rw [c38]; decide +kernel) (by rw [c38]; decide +kernel) (off := 1722) (by rw [c38]; decide +kernel) (by decide) ?_
        refine zpick [0, 1, 2, 3, 4, 5] (lv' := [(0, .ref b), (1, .ref (za Y t1)), (2, .ref (za Y t2)), (3, .ref (za Y t3)), (4, .ref (za Y t4)), (5, .int v5)]) rfl ?_
        exact BL_law_1767 hlt hG hsc ih t1 t2 t3 t4 v5 Y σ _ _ hw hx h1 h2 h3 h4 (by omega) (by omega)
      have hw := hw.2 c38
      by_cases c39 : x2 = 36
      · have hw := hw.1 c39
        refine z_tsw hG dL_law_45 (tgt := 1780) (by rw [c39]; decide +kernel) (by rw [c39]; decide +kernel) (off := 1735) (by rw [c39]; decide +kernel) (by decide) ?_
        refine zpick [0, 1, 2, 3, 4, 5] (lv' := [(0, .ref b), (1, .ref (za Y t1)), (2, .ref (za Y t2)), (3, .ref (za Y t3)), (4, .ref (za Y t4)), (5, .int v5)]) rfl ?_
        exact BL_law_1780 hlt hG hsc ih t1 t2 t3 t4 v5 Y σ _ _ hw hx h1 h2 h3 h4 (by omega) (by omega)
      have hw := hw.2 c39
      by_cases c40 : x2 = 37
      · have hw := hw.1 c40
        refine z_tsw hG dL_law_45 (tgt := 1848) (by rw [c40]; decide +kernel) (by rw [c40]; decide +kernel) (off := 1803) (by rw [c40]; decide +kernel) (by decide) ?_
        refine zpick [0, 1, 2, 3, 4, 5] (lv' := [(0, .ref b), (1, .ref (za Y t1)), (2, .ref (za Y t2)), (3, .ref (za Y t3)), (4, .ref (za Y t4)), (5, .int v5)]) rfl ?_
        exact BL_law_1848 hlt hG hsc ih t1 t2 t3 t4 v5 Y σ _ _ hw hx h1 h2 h3 h4 (by omega) (by omega)
      have hw := hw.2 c40
      by_cases c41 : x2 = 38
      · have hw := hw.1 c41
        refine z_tsw hG dL_law_45 (tgt := 1904) (by rw [c41]; decide +kernel) (by rw [c41]; decide +kernel) (off := 1859) (by rw [c41]; decide +kernel) (by decide) ?_
        refine zpick [0, 1, 2, 3, 4, 5] (lv' := [(0, .ref b), (1, .ref (za Y t1)), (2, .ref (za Y t2)), (3, .ref (za Y t3)), (4, .ref (za Y t4)), (5, .int v5)]) rfl ?_
        exact BL_law_1904 hlt hG hsc ih t1 t2 t3 t4 v5 Y σ _ _ hw hx h1 h2 h3 h4 (by omega) (by omega)
      have hw := hw.2 c41
      by_cases c42 : x2 = 39
      · have hw := hw.1 c42
        refine z_tsw hG dL_law_45 (tgt := 1960) (by rw [c42]; decide +kernel) (by rw [c42]; decide +kernel) (off := 1915) (by rw [c42]; decide +kernel) (by decide) ?_
        refine zpick [0, 1, 2, 3, 4, 5] (lv' := [(0, .ref b), (1, .ref (za Y t1)), (2, .ref (za Y t2)), (3, .ref (za Y t3)), (4, .ref (za Y t4)), (5, .int v5)]) rfl ?_
        exact BL_law_1960 hlt hG hsc ih t1 t2 t3 t4 v5 Y σ _ _ hw hx h1 h2 h3 h4 (by omega) (by omega)
      have hw := hw.2 c42
      by_cases c43 : x2 = 40
      · have hw := hw.1 c43
        refine z_tsw hG dL_law_45 (tgt := 2016) (by rw [c43]; decide +kernel) (by rw [c43]; decide +kernel) (off := 1971) (by rw [c43]; decide +kernel) (by decide) ?_
        refine zpick [0, 1, 2, 3, 4, 5] (lv' := [(0, .ref b), (1, .ref (za Y t1)), (2, .ref (za Y t2)), (3, .ref (za Y t3)), (4, .ref (za Y t4)), (5, .int v5)]) rfl ?_
        exact BL_law_2016 hlt hG hsc ih t1 t2 t3 t4 v5 Y σ _ _ hw hx h1 h2 h3 h4 (by omega) (by omega)
      have hw := hw.2 c43
      by_cases c44 : x2 = 41
      · have hw := hw.1 c44
        refine z_tsw hG dL_law_45 (tgt := 2060) (by rw [c44]; decide +kernel) (by rw [c44]; decide +kernel) (off := 2015) (by rw [c44]; decide +kernel) (by decide) ?_
        refine zpick [0, 1, 2, 3, 4, 5] (lv' := [(0, .ref b), (1, .ref (za Y t1)), (2, .ref (za Y t2)), (3, .ref (za Y t3)), (4, .ref (za Y t4)), (5, .int v5)]) rfl ?_
        exact BL_law_2060 hlt hG hsc ih t1 t2 t3 t4 v5 Y σ _ _ hw hx h1 h2 h3 h4 (by omega) (by omega)
      have hw := hw.2 c44
      by_cases c45 : x2 = 42
      · have hw := hw.1 c45
        refine z_tsw hG dL_law_45 (tgt := 2128) (by rw [c45]; decide +kernel) (by rw [c45]; decide +kernel) (off := 2083) (by rw [c45]; decide +kernel) (by decide) ?_
        refine zpick [0, 1, 2, 3, 4, 5] (lv' := [(0, .ref b), (1, .ref (za Y t1)), (2, .ref (za Y t2)), (3, .ref (za Y t3)), (4, .ref (za Y t4)), (5, .int v5)]) rfl ?_
        exact BL_law_2128 hlt hG hsc ih t1 t2 t3 t4 v5 Y σ _ _ hw hx h1 h2 h3 h4 (by omega) (by omega)
      have hw := hw.2 c45
      by_cases c46 : x2 = 43
      · have hw := hw.1 c46
        refine z_tsw hG dL_law_45 (tgt := 2196) (by rw [c46]; decide +kernel) (by rw [c46]; decide +kernel) (off := 2151) (by rw [c46]; decide +kernel) (by decide) ?_
        refine zpick [0, 1, 2, 3, 4, 5] (lv' := [(0, .ref b), (1, .ref (za Y t1)), (2, .ref (za Y t2)), (3, .ref (za Y t3)), (4, .ref (za Y t4)), (5, .int v5)]) rfl ?_
        exact BL_law_2196 hlt hG hsc ih t1 t2 t3 t4 v5 Y σ _ _ hw hx h1 h2 h3 h4 (by omega) (by omega)
      have hw := hw.2 c46
      by_cases c47 : x2 = 44
      · have hw := hw.1 c47
        refine z_tsw hG dL_law_45 (tgt := 2252) (by rw [c47]; decide +kernel) (by rw [c47]; decide +kernel) (off := 2207) (by rw [c47]; decide +kernel) (by decide) ?_
        refine zpick [0, 1, 2, 3, 4, 5] (lv' := [(0, .ref b), (1, .ref (za Y t1)), (2, .ref (za Y t2)), (3, .ref (za Y t3)), (4, .ref (za Y t4)), (5, .int v5)]) rfl ?_
        exact BL_law_2252 hlt hG hsc ih t1 t2 t3 t4 v5 Y σ _ _ hw hx h1 h2 h3 h4 (by omega) (by omega)
      have hw := hw.2 c47
      by_cases c48 : x2 = 45
      · have hw := hw.1 c48
        refine z_tsw hG dL_law_45 (tgt := 2308) (by rw [c48]; decide +kernel) (by rw [c48]; decide +kernel) (off := 2263) (by rw [c48]; decide +kernel) (by decide) ?_
        refine zpick [0, 1, 2, 3, 4, 5] (lv' := [(0, .ref b), (1, .ref (za Y t1)), (2, .ref (za Y t2)), (3, .ref (za Y t3)), (4, .ref (za Y t4)), (5, .int v5)]) rfl ?_
        exact BL_law_2308 hlt hG hsc ih t1 t2 t3 t4 v5 Y σ _ _ hw hx h1 h2 h3 h4 (by omega) (by omega)
      have hw := hw.2 c48
      by_cases c49 : x2 = 46
      · have hw := hw.1 c49
        refine z_tsw hG dL_law_45 (tgt := 2352) (by rw [c49]; decide +kernel) (by rw [c49]; decide +kernel) (off := 2307) (by rw [c49]; decide +kernel) (by decide) ?_
        refine zpick [0, 1, 2, 3, 4, 5] (lv' := [(0, .ref b), (1, .ref (za Y t1)), (2, .ref (za Y t2)), (3, .ref (za Y t3)), (4, .ref (za Y t4)), (5, .int v5)]) rfl ?_
        exact BL_law_2352 hlt hG hsc ih t1 t2 t3 t4 v5 Y σ _ _ hw hx h1 h2 h3 h4 (by omega) (by omega)
      have hw := hw.2 c49
      by_cases c50 : x2 = 47
      · have hw := hw.1 c50
        refine z_tsw hG dL_law_45 (tgt := 2408) (by rw [c50]; decide +kernel) (by rw [c50]; decide +kernel) (off := 2363) (by rw [c50]; decide +kernel) (by decide) ?_
        refine zpick [0, 1, 2, 3, 4, 5] (lv' := [(0, .ref b), (1, .ref (za Y t1)), (2, .ref (za Y t2)), (3, .ref (za Y t3)), (4, .ref (za Y t4)), (5, .int v5)]) rfl ?_
        exact BL_law_2408 hlt hG hsc ih t1 t2 t3 t4 v5 Y σ _ _ hw hx h1 h2 h3 h4 (by omega) (by omega)
      have hw := hw.2 c50
      by_cases c51 : x2 = 48
      · have hw := hw.1 c51
        refine z_tsw hG dL_law_45 (tgt := 2464) (by rw [c51]; decide +kernel) (by rw [c51]; decide +kernel) (off := 2419) (by rw [c51]; decide +kernel) (by decide) ?_
        refine zpick [0, 1, 2, 3, 4, 5] (lv' := [(0, .ref b), (1, .ref (za Y t1)), (2, .ref (za Y t2)), (3, .ref (za Y t3)), (4, .ref (za Y t4)), (5, .int v5)]) rfl ?_
        exact BL_law_2464 hlt hG hsc ih t1 t2 t3 t4 v5 Y σ _ _ hw hx h1 h2 h3 h4 (by omega) (by omega)
      have hw := hw.2 c51
      by_cases c52 : x2 = 49
      · have hw := hw.1 c52
        refine z_tsw hG dL_law_45 (tgt := 2520) (by rw [c52]; decide +kernel) (by rw [c52]; decide +kernel) (off := 2475) (by rw [c52]; decide +kernel) (by decide) ?_
        refine zpick [0, 1, 2, 3, 4, 5] (lv' := [(0, .ref b), (1, .ref (za Y t1)), (2, .ref (za Y t2)), (3, .ref (za Y t3)), (4, .ref (za Y t4)), (5, .int v5)]) rfl ?_
        exact BL_law_2520 hlt hG hsc ih t1 t2 t3 t4 v5 Y σ _ _ hw hx h1 h2 h3 h4 (by omega) (by omega)
      have hw := hw.2 c52
      by_cases c53 : x2 = 50
      · have hw := hw.1 c53
        refine z_tsw hG dL_law_45 (tgt := 2588) (by rw [c53]; decide +kernel) (by rw [c53]; decide +kernel) (off := 2543) (by rw [c53]; decide +kernel) (by decide) ?_
        refine zpick [0, 1, 2, 3, 4, 5] (lv' := [(0, .ref b), (1, .ref (za Y t1)), (2, .ref (za Y t2)), (3, .ref (za Y t3)), (4, .ref (za Y t4)), (5, .int v5)]) rfl ?_
        exact BL_law_2588 hlt hG hsc ih t1 t2 t3 t4 v5 Y σ _ _ hw hx h1 h2 h3 h4 (by omega) (by omega)
      have hw := hw.2 c53
      by_cases c54 : x2 = 51
      · have hw := hw.1 c54
        refine z_tsw hG dL_law_45 (tgt := 2656) (by rw [c54]; decide +kernel) (by rw [c54]; decide +kernel) (off := 2611) (by rw [c54]; decide +kernel) (by decide) ?_
        refine zpick [0, 1, 2, 3, 4, 5] (lv' := [(0, .ref b), (1, .ref (za Y t1)), (2, .ref (za Y t2)), (3, .ref (za Y t3)), (4, .ref (za Y t4)), (5, .int v5)]) rfl ?_
        exact BL_law_2656 hlt hG hsc ih t1 t2 t3 t4 v5 Y σ _ _ hw hx h1 h2 h3 h4 (by omega) (by omega)
      have hw := hw.2 c54
      by_cases c55 : x2 = 52
      · have hw := hw.1 c55
        refine z_tsw hG dL_law_45 (tgt := 2712) (by rw [c55]; decide +kernel) (by rw [c55]; decide +kernel) (off := 2667) (by rw [c55]; decide +kernel) (by decide) ?_
        refine zpick [0, 1, 2, 3, 4, 5] (lv' := [(0, .ref b), (1, .ref (za Y t1)), (2, .ref (za Y t2)), (3, .ref (za Y t3)), (4, .ref (za Y t4)), (5, .int v5)]) rfl ?_
        exact BL_law_2712 hlt hG hsc ih t1 t2 t3 t4 v5 Y σ _ _ hw hx h1 h2 h3 h4 (by omega) (by omega)
      have hw := hw.2 c55
      refine z_tswD hG dL_law_45 (tgt := 2768) (z_out53 (fun k hk => match k, hk with | 0, _ => c3 | 1, _ => c4 | 2, _ => c5 | 3, _ => c6 | 4, _ => c7 | 5, _ => c8 | 6, _ => c9 | 7, _ => c10 | 8, _ => c11 | 9, _ => c12 | 10, _ => c13 | 11, _ => c14 | 12, _ => c15 | 13, _ => c16 | 14, _ => c17 | 15, _ => c18 | 16, _ => c19 | 17, _ => c20 | 18, _ => c21 | 19, _ => c22 | 20, _ => c23 | 21, _ => c24 | 22, _ => c25 | 23, _ => c26 | 24, _ => c27 | 25, _ => c28 | 26, _ => c29 | 27, _ => c30 | 28, _ => c31 | 29, _ => c32 | 30, _ => c33 | 31, _ => c34 | 32, _ => c35 | 33, _ => c36 | 34, _ => c37 | 35, _ => c38 | 36, _ => c39 | 37, _ => c40 | 38, _ => c41 | 39, _ => c42 | 40, _ => c43 | 41, _ => c44 | 42, _ => c45 | 43, _ => c46 | 44, _ => c47 | 45, _ => c48 | 46, _ => c49 | 47, _ => c50 | 48, _ => c51 | 49, _ => c52 | 50, _ => c53 | 51, _ => c54 | 52, _ => c55 | n + 53, h => absurd h (by omega))) (by decide) ?_
      refine zpick [0, 1, 2, 3, 4, 5] (lv' := [(0, .ref b), (1, .ref (za Y t1)), (2, .ref (za Y t2)), (3, .ref (za Y t3)), (4, .ref (za Y t4)), (5, .int v5)]) rfl ?_
      exact BL_law_2768 hlt hG hsc ih t1 t2 t3 t4 v5 Y σ _ _ hw hx h1 h2 h3 h4 (by omega) (by omega)
set_option maxRecDepth 100000 in
set_option maxHeartbeats 4000000 in
theorem ML_law {l : Launch} (hlt : l.stackTraces = false) {E : zE} {Y0 : zY} {p : Program} {e : Env} {s : State} {m : MethodId} {b L : Nat} {xs : Nat → Int32} {below : List Frame} {meth : Method} {c : Code} (hG : zG E p l s m #[Value.ref b] meth c cL_law 9 RL (some .boolean) (zA Y0 s.heap.size)) (hsc : zLaw b L xs s Y0) {σ : zS} (hw : wL_law L xs (zsp Y0) σ) : WW E Y0 σ p l e room_1 s m #[Value.ref b] below meth c (zA Y0 s.heap.size) 9 0 0 (lw_Z below #[Value.ref b] s) [(0, .ref b)] 0 [] := by
  unfold wL_law at hw
  have hx : zext Y0 Y0 := zext.rf
  refine z_new hG ck_11 kc_L_8 kn_11 ki_11 nw_11 (show 0 + 1 ≤ 601024 from by omega) (show 0 + 9 ≤ 7293034 from by omega) dL_law_0 (fun Y1 a1 ea1 hx1 eSa1 ha1 => ?_)
  have hw := hw a1 ea1 (zsp Y1) eSa1
  refine zwiden (k := 1) (n := 9) (show 0 + 1 ≤ 1 from by omega) (show 0 + 9 ≤ 9 from by omega) ?_
  refine z_topσ (fun σ2 eσ2 => ?_)
  have hw := hw σ2 eσ2
  have hx := hx.tr hx1
  refine z_dup hG dL_law_3 rfl ?_
  refine z_callAv hG (z_runI (As := []) (st := [.ref (za Y1 a1)]) hG k_L_139 (MX11_init l ha1 hw) ⟨(Nat.le_of_ble_eq_true rfl), (Nat.le_of_ble_eq_true rfl)⟩ rfl (Nat.le_of_ble_eq_true rfl) dL_law_4 ⟨show 1 + 490 ≤ 601024 from by omega, show 9 + 212127 ≤ 7293034 from by omega⟩ rfl) (fun Y3 σ3 hx3 hw => ?_)
  refine zwiden (k := 491) (n := 212136) (show 1 + 490 ≤ 491 from by omega) (show 9 + 212127 ≤ 212136 from by omega) ?_
  refine zst (st' := [.ref (za Y3 a1)]) (by simp only [hx3.a ha1]) ?_
  have ha1 := hx3.T ha1
  have hx := hx.tr hx3
  refine z_astore_n (lv' := [(1, .ref (za Y3 a1)), (0, .ref b)]) hG dL_law_7 rfl (by decide) rfl ?_
  refine z_new hG ck_12 kc_L_140 kn_12 ki_12 nw_12 (show 491 + 1 ≤ 601024 from by omega) (show 212136 + 23 ≤ 7293034 from by omega) dL_law_8 (fun Y5 a5 ea5 hx5 eSa5 ha5 => ?_)
  have hw := hw a5 ea5 (zsp Y5) eSa5
  refine zwiden (k := 492) (n := 212159) (show 491 + 1 ≤ 492 from by omega) (show 212136 + 23 ≤ 212159 from by omega) ?_
  refine z_topσ (fun σ6 eσ6 => ?_)
  have hw := hw σ6 eσ6
  refine zlv (lv' := [(1, .ref (za Y5 a1)), (0, .ref b)]) (by simp only [hx5.a ha1]) ?_
  have ha1 := hx5.T ha1
  have hx := hx.tr hx5
  refine z_dup hG dL_law_11 rfl ?_
  refine z_callAv hG (z_runI (As := []) (st := [.ref (za Y5 a5)]) hG k_L_142 (MX12_init l ha5 hw) ⟨(Nat.le_of_ble_eq_true rfl), (Nat.le_of_ble_eq_true rfl)⟩ rfl (Nat.le_of_ble_eq_true rfl) dL_law_12 ⟨show 492 + 7 ≤ 601024 from by omega, show 212159 + 62683 ≤ 7293034 from by omega⟩ rfl) (fun Y7 σ7 hx7 hw => ?_)
  refine zwiden (k := 499) (n := 274842) (show 492 + 7 ≤ 499 from by omega) (show 212159 + 62683 ≤ 274842 from by omega) ?_
  refine zst (st' := [.ref (za Y7 a5)]) (by simp only [hx7.a ha5, hx7.a ha1]) ?_
  refine zlv (lv' := [(1, .ref (za Y7 a1)), (0, .ref b)]) (by simp only [hx7.a ha5, hx7.a ha1]) ?_
  have ha5 := hx7.T ha5
  have ha1 := hx7.T ha1
  have hx := hx.tr hx7
  refine z_astore_n (lv' := [(2, .ref (za Y7 a5)), (1, .ref (za Y7 a1)), (0, .ref b)]) hG dL_law_15 rfl (by decide) rfl ?_
  refine z_iconst (v := 1) hG dL_law_16 (by decide) ?_
  have eNa9 : ((1 : Int32)).toNatClampNeg = 1 := by decide +kernel
  refine z_newa (kd := 24) (t0 := 4) (ty := .long) (atype := .long) (n := 1) hG kA_24 rfl rfl (Or.inr (Or.inr (Or.inl ⟨rfl, rfl⟩))) (by decide) (show ((1 : Int32)).toNatClampNeg * 8 ≤ 536870912 from by omega) (show 499 + 1 ≤ 601024 from by omega) (show 274842 + ((1 : Int32)).toNatClampNeg ≤ 7293034 from by omega) dL_law_17 (fun Y9 a9 ea9 hx9 eSa9 ha9 => ?_)
  rw [eNa9] at eSa9
  have hw := hw a9 ea9 (zsp Y9) eSa9
  refine zwiden (k := 500) (n := 274843) (show 499 + 1 ≤ 500 from by omega) (show 274842 + 1 ≤ 274843 from by omega) ?_
  refine z_topσ (fun σ10 eσ10 => ?_)
  have hw := hw σ10 eσ10
  refine zlv (lv' := [(2, .ref (za Y9 a5)), (1, .ref (za Y9 a1)), (0, .ref b)]) (by simp only [hx9.a ha5, hx9.a ha1]) ?_
  have ha5 := hx9.T ha5
  have ha1 := hx9.T ha1
  have hx := hx.tr hx9
  refine z_astore_n (lv' := [(3, .ref (za Y9 a9)), (2, .ref (za Y9 a5)), (1, .ref (za Y9 a1)), (0, .ref b)]) hG dL_law_19 rfl (by decide) rfl ?_
  refine z_iconst (v := 1) hG dL_law_20 (by decide) ?_
  have eNa11 : ((1 : Int32)).toNatClampNeg = 1 := by decide +kernel
  refine z_newa (kd := 25) (t0 := 5) (ty := .double) (atype := .double) (n := 1) hG kA_25 rfl rfl (Or.inr (Or.inr (Or.inr ⟨rfl, rfl⟩))) (by decide) (show ((1 : Int32)).toNatClampNeg * 8 ≤ 536870912 from by omega) (show 500 + 1 ≤ 601024 from by omega) (show 274843 + ((1 : Int32)).toNatClampNeg ≤ 7293034 from by omega) dL_law_21 (fun Y11 a11 ea11 hx11 eSa11 ha11 => ?_)
  rw [eNa11] at eSa11
  have hw := hw a11 ea11 (zsp Y11) eSa11
  refine zwiden (k := 501) (n := 274844) (show 500 + 1 ≤ 501 from by omega) (show 274843 + 1 ≤ 274844 from by omega) ?_
  refine z_topσ (fun σ12 eσ12 => ?_)
  have hw := hw σ12 eσ12
  refine zlv (lv' := [(3, .ref (za Y11 a9)), (2, .ref (za Y11 a5)), (1, .ref (za Y11 a1)), (0, .ref b)]) (by simp only [hx11.a ha9, hx11.a ha5, hx11.a ha1]) ?_
  have ha9 := hx11.T ha9
  have ha5 := hx11.T ha5
  have ha1 := hx11.T ha1
  have hx := hx.tr hx11
  refine z_astore (lv' := [(4, .ref (za Y11 a11)), (3, .ref (za Y11 a9)), (2, .ref (za Y11 a5)), (1, .ref (za Y11 a1)), (0, .ref b)]) hG dL_law_23 (by decide) rfl ?_
  refine z_iconst (v := 0) hG dL_law_25 (by decide) ?_
  refine z_istore (lv' := [(5, .int 0), (4, .ref (za Y11 a11)), (3, .ref (za Y11 a9)), (2, .ref (za Y11 a5)), (1, .ref (za Y11 a1)), (0, .ref b)]) hG dL_law_26 (by decide) rfl ?_
  obtain ⟨n13, hn13, hw⟩ := hw
  refine zpick [5, 4, 3, 2, 1, 0] (lv' := [(0, .ref b), (1, .ref (za Y11 a1)), (2, .ref (za Y11 a5)), (3, .ref (za Y11 a9)), (4, .ref (za Y11 a11)), (5, .int 0)]) rfl ?_
  refine zwiden (k := 501) (n := 274844) (by omega) (by omega) ?_
  exact BL_law_28 hlt hG hsc n13 a1 a5 a9 a11 0 Y11 σ12 _ _ hw hx ha1 ha5 ha9 ha11 (by omega) (by omega)
