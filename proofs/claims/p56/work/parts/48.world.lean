/-! THE WORLD of this claim: the class's cells 0 .. 454, its row r beside; everything from 455 on is the law's -/
def qST (g : Nat → Nat → Option Nat) (ln : Nat → Nat) : Prop := (g 0 0 = some 1 ∧ g 0 1 = some 3 ∧ g 0 2 = some 5 ∧ g 0 3 = some 261 ∧ g 0 4 = some 277 ∧ g 0 5 = some 293) ∧ (g 1 0 = some 2 ∧ g 3 0 = some 4 ∧ g 4 2 = some 1) ∧ ln 2 = 600 ∧ zHg g ln ∧ (∀ b, zIsM b → zMs g ln b) ∧ (zPs g ln 7 ∧ zPs g ln 134)
def qW (S : zSp) (σ : zS) (r : Nat → Int32) (N p p' s m : Nat) (h : Nat → Nat → Int32) : Prop :=
  qST (gr σ) (zSl S) ∧ ((p = 7 ∧ p' = 134 ∨ p = 134 ∧ p' = 7) ∧ gr σ 0 6 = some p ∧ gr σ 0 7 = some p' ∧ gr σ 261 0 = some p) ∧
  (zPl σ (zSl S) p r ∧ zCh σ p r) ∧ (KM σ 261 r ∧ zEv r N ∧ (r 5).toInt ≤ 100000) ∧ zCap σ ∧
  (m ≤ 10 ∧ s < 10 ∧ zHs σ p s m h) ∧ gi σ 5 3 = 0 ∧ 455 ≤ zSk S
/-- what is local to the cells named -/
theorem zMs_loc {g g' : Nat → Nat → Option Nat} {ln ln' : Nat → Nat} {b : Nat} (h : zMs g ln b) (e : ∀ a, b ≤ a → a < b + 16 → g' a = g a) (el : ∀ a, b ≤ a → a < b + 16 → ln' a = ln a) : zMs g' ln' b := by
  unfold zMs at h ⊢
  rw [e b (by omega) (by omega), e (b + 1) (by omega) (by omega), e (b + 4) (by omega) (by omega), e (b + 2) (by omega) (by omega), e (b + 5) (by omega) (by omega), e (b + 7) (by omega) (by omega), e (b + 8) (by omega) (by omega), e (b + 10) (by omega) (by omega), e (b + 12) (by omega) (by omega), e (b + 14) (by omega) (by omega), el (b + 3) (by omega) (by omega), el (b + 6) (by omega) (by omega), el (b + 9) (by omega) (by omega), el (b + 11) (by omega) (by omega), el (b + 13) (by omega) (by omega), el (b + 15) (by omega) (by omega)]
  exact h
theorem zPs_loc {g g' : Nat → Nat → Option Nat} {ln ln' : Nat → Nat} {p : Nat} (h : zPs g ln p) (e : ∀ a, p ≤ a → a < p + 127 → g' a = g a) (el : ∀ a, p ≤ a → a < p + 127 → ln' a = ln a) : zPs g' ln' p := by
  unfold zPs at h ⊢
  obtain ⟨h1, h2, h3, h4⟩ := h
  rw [e p (by omega) (by omega), e (p + 1) (by omega) (by omega), e (p + 3) (by omega) (by omega), e (p + 65) (by omega) (by omega), el (p + 2) (by omega) (by omega), el (p + 4) (by omega) (by omega), el (p + 66) (by omega) (by omega)]
  refine ⟨h1, h2, h3, fun q hq k hk => ?_⟩
  rw [e (p + 4 + 62 * q) (by omega) (by omega), e (p + 5 + 62 * q + 5 * k) (by omega) (by omega), e (p + 6 + 62 * q + 5 * k) (by omega) (by omega), e (p + 8 + 62 * q + 5 * k) (by omega) (by omega), el (p + 7 + 62 * q + 5 * k) (by omega) (by omega), el (p + 9 + 62 * q + 5 * k) (by omega) (by omega)]
  exact h4 q hq k hk
theorem zPl_loc {σ σ' : zS} {ln ln' : Nat → Nat} {p : Nat} {r : Nat → Int32} (h : zPl σ ln p r) (g : ∀ a, p ≤ a → a < p + 127 → gi σ' a = gi σ a) (e : ∀ a, p ≤ a → a < p + 127 → gr σ' a = gr σ a) (el : ∀ a, p ≤ a → a < p + 127 → ln' a = ln a) : zPl σ' ln' p r := by
  unfold zPl at h ⊢
  obtain ⟨h1, h2, h3, h4, h5⟩ := h
  rw [g p (by omega) (by omega), e p (by omega) (by omega), g (p + 3) (by omega) (by omega), g (p + 65) (by omega) (by omega), e (p + 3) (by omega) (by omega), e (p + 65) (by omega) (by omega), el (p + 4) (by omega) (by omega), el (p + 66) (by omega) (by omega)]
  refine ⟨h1, h2, h3, h4, fun q hq k hk => ?_⟩
  rw [e (p + 4 + 62 * q) (by omega) (by omega), e (p + 5 + 62 * q + 5 * k) (by omega) (by omega), e (p + 8 + 62 * q + 5 * k) (by omega) (by omega), el (p + 9 + 62 * q + 5 * k) (by omega) (by omega), g (p + 8 + 62 * q + 5 * k) (by omega) (by omega), g (p + 9 + 62 * q + 5 * k) (by omega) (by omega)]
  exact h5 q hq k hk
theorem zHs_loc {σ σ' : zS} {p s m : Nat} {h : Nat → Nat → Int32} (H : zHs σ p s m h) (g : ∀ a, a < 455 → gi σ' a = gi σ a) (e : ∀ a, a < 455 → gr σ' a = gr σ a) (l : ∀ a, a < 455 → gl σ' a = gl σ a) : zHs σ' p s m h := by
  obtain ⟨h1, h2, h3⟩ := H
  refine ⟨by rw [g 293 (by decide)]; exact h1, by rw [g 293 (by decide)]; exact h2, fun i hi => ?_⟩
  have hb := hslot_b s i
  refine ⟨by rw [e _ (by omega)]; exact (h3 i hi).1, KM_o (h3 i hi).2 (fun a h1 h2 => ⟨g a (by omega), l a (by omega)⟩)⟩
/-- the class's cells are the same -/
def q455 (S S' : zSp) (σ σ' : zS) : Prop := zSk S ≤ zSk S' ∧ (∀ a, a < 455 → gi σ' a = gi σ a ∧ gr σ' a = gr σ a ∧ gl σ' a = gl σ a) ∧ ∀ a, a < 455 → zSl S' a = zSl S a
theorem q455.rf {S : zSp} {σ : zS} : q455 S S σ σ := ⟨Nat.le_refl _, fun _ _ => ⟨rfl, rfl, rfl⟩, fun _ _ => rfl⟩
theorem q455.tr {S S' S'' : zSp} {σ σ' σ'' : zS} (h : q455 S S' σ σ') (g : q455 S' S'' σ' σ'') : q455 S S'' σ σ'' := ⟨Nat.le_trans h.1 g.1, fun a ha => ⟨(g.2.1 a ha).1.trans (h.2.1 a ha).1, (g.2.1 a ha).2.1.trans (h.2.1 a ha).2.1, (g.2.1 a ha).2.2.trans (h.2.1 a ha).2.2⟩, fun a ha => (g.2.2 a ha).trans (h.2.2 a ha)⟩
theorem qST_loc {g g' : Nat → Nat → Option Nat} {ln ln' : Nat → Nat} (h : qST g ln) (e : ∀ a, a < 455 → g' a = g a) (el : ∀ a, a < 455 → ln' a = ln a) : qST g' ln' := by
  obtain ⟨h1, h2, h3, ⟨h4, h4', h4''⟩, h5, h6, h7⟩ := h
  refine ⟨by rw [e 0 (by decide)]; exact h1, by rw [e 1 (by decide), e 3 (by decide), e 4 (by decide)]; exact h2, by rw [el 2 (by decide)]; exact h3, ⟨by rw [e 293 (by decide)]; exact h4, fun i hi => by rw [e 294 (by decide)]; exact h4' i hi, by rw [el 294 (by decide)]; exact h4''⟩, fun b hb => ?_, zPs_loc h6 (fun a _ _ => e a (by omega)) (fun a _ _ => el a (by omega)), zPs_loc h7 (fun a _ _ => e a (by omega)) (fun a _ _ => el a (by omega))⟩
  have := zIsM_b hb
  exact zMs_loc (h5 b hb) (fun a _ _ => e a (by omega)) (fun a _ _ => el a (by omega))
theorem qW.o {S S' : zSp} {σ σ' : zS} {r : Nat → Int32} {N p p' s m : Nat} {h : Nat → Nat → Int32} (W : qW S σ r N p p' s m h) (F : q455 S S' σ σ') : qW S' σ' r N p p' s m h := by
  obtain ⟨w1, w2, w3, w4, w5, w6, w7, w8⟩ := W
  have g : ∀ a, a < 455 → gi σ' a = gi σ a := fun a ha => (F.2.1 a ha).1
  have e : ∀ a, a < 455 → gr σ' a = gr σ a := fun a ha => (F.2.1 a ha).2.1
  have l : ∀ a, a < 455 → gl σ' a = gl σ a := fun a ha => (F.2.1 a ha).2.2
  have el := F.2.2
  have hp : p + 127 ≤ 261 := by omega
  refine ⟨qST_loc w1 e el, ⟨w2.1, by rw [e 0 (by decide)]; exact w2.2.1, by rw [e 0 (by decide)]; exact w2.2.2.1, by rw [e 261 (by decide)]; exact w2.2.2.2⟩, ⟨zPl_loc w3.1 (fun a _ _ => g a (by omega)) (fun a _ _ => e a (by omega)) (fun a _ _ => el a (by omega)), fun q hq k hk hk2 => by rw [g _ (by omega)]; exact w3.2 q hq k hk hk2⟩, ⟨KM_o w4.1 (fun a _ _ => ⟨g a (by omega), l a (by omega)⟩), w4.2⟩, fun b hb => ?_, ⟨w6.1, w6.2.1, zHs_loc w6.2.2 g e l⟩, by rw [g 5 (by decide)]; exact w7, Nat.le_trans w8 F.1⟩
  have := zIsM_b hb
  rw [g _ (by omega), g _ (by omega)]
  exact w5 b hb
section QW
variable {S : zSp} {σ : zS} {r : Nat → Int32} {N p p' s m : Nat} {h : Nat → Nat → Int32}
theorem qW.st (W : qW S σ r N p p' s m h) : qST (gr σ) (zSl S) := W.1
theorem qW.ps (W : qW S σ r N p p' s m h) : zPs (gr σ) (zSl S) p := by
  rcases W.2.1.1 with ⟨rfl, -⟩ | ⟨rfl, -⟩
  · exact W.1.2.2.2.2.2.1
  · exact W.1.2.2.2.2.2.2
theorem qW.ps' (W : qW S σ r N p p' s m h) : zPs (gr σ) (zSl S) p' := by
  rcases W.2.1.1 with ⟨-, rfl⟩ | ⟨-, rfl⟩
  · exact W.1.2.2.2.2.2.2
  · exact W.1.2.2.2.2.2.1
theorem qW.sm (W : qW S σ r N p p' s m h) : zMs (gr σ) (zSl S) 261 := W.1.2.2.2.2.1 261 (Or.inl rfl)
theorem qW.pb (W : qW S σ r N p p' s m h) : p + 127 ≤ 261 := by have := W.2.1.1; omega
theorem qW.km (W : qW S σ r N p p' s m h) : KM σ 261 r := W.2.2.2.1.1
theorem qW.ev (W : qW S σ r N p p' s m h) : zEv r N := W.2.2.2.1.2.1
theorem qW.w (W : qW S σ r N p p' s m h) : zW r := W.2.2.2.1.2.1.1
theorem qW.x (W : qW S σ r N p p' s m h) : zx r (r 5).toInt := W.2.2.2.1.2.1.2.1
theorem qW.pl (W : qW S σ r N p p' s m h) : zPl σ (zSl S) p r := W.2.2.1.1
theorem qW.ch (W : qW S σ r N p p' s m h) : zCh σ p r := W.2.2.1.2
theorem qW.gp (W : qW S σ r N p p' s m h) : gr σ 0 6 = some p := W.2.1.2.1
theorem qW.gm (W : qW S σ r N p p' s m h) : gr σ 261 0 = some p := W.2.1.2.2.2
theorem qW.g3 (W : qW S σ r N p p' s m h) : gr σ 0 3 = some 261 := W.1.1.2.2.2.1
theorem qW.g1 (W : qW S σ r N p p' s m h) : gr σ 0 0 = some 1 := W.1.1.1
theorem qW.T5 (W : qW S σ r N p p' s m h) : (r 5).toInt ≤ 100000 := W.2.2.2.1.2.2

theorem qW.cnt (W : qW S σ r N p p' s m h) {q : Nat} (hq : q ≤ 1) : gi σ (p + 3 + 62 * q) 2 = r (25 + q) ∧ 0 ≤ (r (25 + q)).toInt ∧ (r (25 + q)).toInt ≤ 12 := by
  rcases (show q = 0 ∨ q = 1 by omega) with rfl | rfl
  · exact ⟨W.pl.2.2.1.1, W.w.L0⟩
  · exact ⟨W.pl.2.2.1.2, W.w.L1⟩
theorem qW.ln (W : qW S σ r N p p' s m h) {q k : Nat} (hq : q < 2) (hk : k < 12) (hk2 : (k : Int) < (r (25 + q)).toInt) : gr σ (p + 5 + 62 * q + 5 * k) 1 = some (p + 8 + 62 * q + 5 * k) ∧ gr σ (p + 8 + 62 * q + 5 * k) 0 = some (p + 9 + 62 * q + 5 * k) ∧ zSl S (p + 9 + 62 * q + 5 * k) = 62 ∧ gi σ (p + 8 + 62 * q + 5 * k) 1 = nI (rPath (r) (12 * q + k)).length ∧ (∀ j, j < (rPath (r) (12 * q + k)).length → gi σ (p + 9 + 62 * q + 5 * k) j = (rPath (r) (12 * q + k)).getD j 0) ∧ 2 ≤ (rPath (r) (12 * q + k)).length ∧ (rPath (r) (12 * q + k)).length ≤ 62 := by
  obtain ⟨⟨x1, x2, x3, x4⟩, xx⟩ := W.pl.2.2.2.2 q hq k hk
  obtain ⟨y1, y2⟩ := xx hk2
  have := rPath_len W.w (a := 12 * q + k) (by omega)
  exact ⟨x2, x3, x4, y1, y2, this.1, this.2⟩
theorem qW.hQ (W : qW S σ r N p p' s m h) : zQp r := W.x.2.2.2.2.2.2.2.2
end QW
theorem c_office {ln : Nat → Nat} {σ : zS} (ST : qST (gr σ) ln) {v : Int32} {Q : Nat → zS → Prop} {X : String → zS → Prop} (h0 : v = 0 → Q 262 σ) (h1 : v = 1 → Q 265 σ) (hx : ¬ (v = 0 ∨ v = 1) → X "java/lang/IndexOutOfBoundsException" σ) : wxX11_officeAt ln σ 0 v Q X := by
  have g3 := ST.1.2.2.2.1
  have S := ST.2.2.2.2.1 261 (Or.inl rfl)
  refine ⟨fun e => ⟨261, g3, ⟨fun e1 => ?_, fun _ => ⟨262, S.1.1, h0 e⟩⟩⟩, fun e => ⟨fun e1 => ⟨261, g3, ⟨fun _ => ⟨265, S.1.2.1, h1 e1⟩, fun h => absurd e1 h⟩⟩, fun e1 => hx (fun h => h.elim e e1)⟩⟩
  rw [e] at e1
  exact absurd e1 (by decide)
theorem c_desk {ln : Nat → Nat} {σ : zS} (ST : qST (gr σ) ln) {p : Nat} (gp : gr σ 0 6 = some p) (PS : zPs (gr σ) ln p) {v : Int32} {Q : Nat → zS → Prop} {X : String → zS → Prop} (h0 : v = 0 → Q (p + 3) σ) (h1 : v = 1 → Q (p + 65) σ) (hx : ¬ (v = 0 ∨ v = 1) → X "java/lang/IndexOutOfBoundsException" σ) : wxX11_deskAt ln σ 0 v Q X := by
  refine ⟨fun e => ⟨p, gp, ⟨fun e1 => ?_, fun _ => ⟨p + 3, PS.2.1.1, h0 e⟩⟩⟩, fun e => ⟨fun e1 => ⟨p, gp, ⟨fun _ => ⟨p + 65, PS.2.1.2, h1 e1⟩, fun h => absurd e1 h⟩⟩, fun e1 => hx (fun h => h.elim e e1)⟩⟩
  rw [e] at e1
  exact absurd e1 (by decide)
theorem p_office {ln : Nat → Nat} {σ : zS} (ST : qST (gr σ) ln) {v : Int32} {Q : Nat → zS → Prop} (h0 : v = 0 → Q 262 σ) (h1 : v = 1 → Q 265 σ) (hx : v = 0 ∨ v = 1) : wX11_officeAt ln σ 0 v Q := by
  show wxX11_officeAt ln σ 0 v Q (fun _ _ => False)
  exact c_office ST h0 h1 (fun h => h hx)
theorem p_desk {ln : Nat → Nat} {σ : zS} (ST : qST (gr σ) ln) {p : Nat} (gp : gr σ 0 6 = some p) (PS : zPs (gr σ) ln p) {v : Int32} {Q : Nat → zS → Prop} (h0 : v = 0 → Q (p + 3) σ) (h1 : v = 1 → Q (p + 65) σ) (hx : v = 0 ∨ v = 1) : wX11_deskAt ln σ 0 v Q := by
  show wxX11_deskAt ln σ 0 v Q (fun _ _ => False)
  exact c_desk ST gp PS h0 h1 (fun h => h hx)
theorem c_lineAt {S : zSp} {σ : zS} {N p p' s m : Nat} {h : Nat → Nat → Int32} {r : Nat → Int32} (W : qW S σ r N p p' s m h) {v w : Int32} {Q : Nat → zS → Prop} {X : String → zS → Prop} (h1 : ∀ q k : Nat, (v = 0 ∧ q = 0 ∨ v = 1 ∧ q = 1) → w = nI k → k < 12 → (k : Int) < (r (25 + q)).toInt → Q (p + 5 + 62 * q + 5 * k) σ) (h0 : ¬ zLok (r) v w → X "java/lang/IndexOutOfBoundsException" σ) : wxX11_lineAt (zSl S) σ 0 v w Q X := by
  have PS := W.ps
  have g : ∀ q, (v = 0 ∧ q = 0 ∨ v = 1 ∧ q = 1) → wX0_line (zSl S) σ (p + 3 + 62 * q) w (fun r4 σ3 => (r4 = none → X "java/lang/IndexOutOfBoundsException" σ3) ∧ (∀ j5 : Nat, r4 = some j5 → Q j5 σ3)) := by
    intro q hq
    have hq1 : q ≤ 1 := by omega
    obtain ⟨c1, c2, c3⟩ := W.cnt hq1
    have g3 : gr σ (p + 3 + 62 * q) 3 = some (p + 4 + 62 * q) := by
      rcases hq with ⟨_, rfl⟩ | ⟨_, rfl⟩
      · exact PS.2.2.1.1
      · exact PS.2.2.1.2.1
    have gl : zSl S (p + 4 + 62 * q) = 12 := by
      rcases hq with ⟨_, rfl⟩ | ⟨_, rfl⟩
      · exact PS.2.2.1.2.2.1
      · exact PS.2.2.1.2.2.2
    by_cases hw : 0 ≤ w.toInt ∧ w.toInt < (r (25 + q)).toInt
    · have cw := ncl hw.1
      have cc := ncl c2
      have ew : w = nI w.toNatClampNeg := by rw [neq, nI_toInt (by omega)]; omega
      have ec : gi σ (p + 3 + 62 * q) 2 = nI (r (25 + q)).toNatClampNeg := by rw [c1, neq, nI_toInt (by omega)]; omega
      refine w_line (k := w.toNatClampNeg) g3 gl ec (by omega) ew (by omega) (PS.2.2.2 q (by omega) _ (by omega)).1 ⟨fun e => absurd e (by simp), fun j5 e5 => ?_⟩
      obtain rfl := Option.some.inj e5
      exact h1 q _ hq ew (by omega) (by omega)
    · refine w_line_no ?_ ⟨fun _ => h0 (fun e => hw ?_), fun j5 e5 => absurd e5 (by simp)⟩
      · rw [c1]; omega
      · obtain ⟨q', k, e1, e2, e3, e4⟩ := e
        have : q' = q := by
          rcases hq with ⟨x, rfl⟩ | ⟨x, rfl⟩ <;> rcases e1 with ⟨y, rfl⟩ | ⟨y, rfl⟩
          · rfl
          · rw [x] at y; exact absurd y (by decide)
          · rw [x] at y; exact absurd y (by decide)
          · rfl
        subst this
        have : w.toInt = k := by rw [e2, nI_toInt (by omega)]
        omega
  unfold wxX11_lineAt
  refine c_desk W.st W.gp PS (fun hv => g 0 (Or.inl ⟨hv, rfl⟩)) (fun hv => g 1 (Or.inr ⟨hv, rfl⟩)) (fun hv => h0 (fun e => ?_))
  obtain ⟨q, k, e1, _⟩ := e
  exact hv (e1.elim (fun x => Or.inl x.1) (fun x => Or.inr x.1))
theorem C_toSend {S : zSp} {σ : zS} {N p p' s m : Nat} {h : Nat → Nat → Int32} {r : Nat → Int32} (W : qW S σ r N p p' s m h) {q k : Nat} (hq : q ≤ 1) (hk : k < 12) (hk2 : (k : Int) < (r (25 + q)).toInt) {Q : Int32 → zS → Prop} (hQ : Q (iI (rTf (r) q k)) σ) : wX11_ticksToSend (zSl S) σ 0 (p + 5 + 62 * q + 5 * k) (262 + 3 * q) Q := by
  have hN := W.w.N
  have K1 := W.km
  obtain ⟨x1, x2, x3, x4, x5, x6, x7⟩ := W.ln (show q < 2 by omega) hk hk2
  have pn : gi σ p 0 = r 0 := W.pl.1.1
  have tk : (1000 : Int32).toInt = 1000 := rfl
  have eN : (1000 * r 0).toInt = 1000 * (r 0).toInt := by rw [nmul (by rw [tk]; omega) (by rw [tk]; omega), tk]
  have e0 : gi σ (262 + 3 * q) 0 = r (21 + q) := by
    rcases (show q = 0 ∨ q = 1 by omega) with rfl | rfl
    · exact K1.2.1.1.1
    · exact K1.2.1.2.1
  have e1 : gi σ (262 + 3 * q) 1 = r (23 + q) := by
    rcases (show q = 0 ∨ q = 1 by omega) with rfl | rfl
    · exact K1.2.1.1.2.1
    · exact K1.2.1.2.2.1
  refine ⟨p, W.gp, ?_⟩
  unfold wX6_circle
  rw [pn]
  intro x4' e4
  rw [e0] at e4
  subst e4
  refine ⟨_, C_send20 (pa := rPath (r) (12 * q + k)) x1 x2 x3 x4 x7 x5 (fun j hj => W.hQ q (by omega) k hk hk2 j hj) e1 (W.w.rt hq) (by omega) (rPath (r) (12 * q + k)) 0 _ 0 rfl (Nat.zero_le _) (by have := W.w.ph2 hq; omega) ⟨Int.le_refl 0, Int.le_refl 0⟩ ?_⟩
  rw [eN, Int.zero_add]
  exact hQ
theorem C_slow17 {S : zSp} {σ : zS} {N p p' s m : Nat} {h : Nat → Nat → Int32} {r : Nat → Int32} (W : qW S σ r N p p' s m h) {v : Int32} {q : Nat} (hq : v = 0 ∧ q = 0 ∨ v = 1 ∧ q = 1) {cnt : Nat} (hc : (cnt : Int) = (r (25 + q)).toInt) (hc2 : cnt ≤ 12) {Q : Int32 → zS → Prop} : ∀ (d k : Nat) (b : Int32) (mo : Int), k + d = cnt → -1 ≤ mo ∧ mo ≤ 179800 → Q (slo (rTf (r) q) d k (b, mo)).1 σ → wX11_slowestLine_17 (zSl S) Q (d + 1) 0 v (nI cnt) b (iI mo) (nI k) σ
  | 0, k, b, mo, hk, hm, hQ => by
    have e : nI cnt ≤ nI k := nI_le (by omega) (by omega)
    rw [wX11_slowestLine_17]
    exact ⟨fun _ => hQ, fun h => absurd e h⟩
  | d + 1, k, b, mo, hk, hm, hQ => by
    have e : ¬ nI cnt ≤ nI k := nI_ge (by omega) (by omega)
    have hb := rTf_b W.w (q := q) (k := k) (by omega) (by omega)
    rw [slo] at hQ
    rw [wX11_slowestLine_17]
    refine ⟨fun h => absurd h e, fun _ => ?_⟩
    have fin : ((iI (rTf (r) q k) ≤ iI mo → ∀ x7 : Int32, x7 = nI k + 1 → (wX11_slowestLine_17 (zSl S) Q (d + 1)) 0 v (nI cnt) b (iI mo) x7 σ) ∧ (¬ iI (rTf (r) q k) ≤ iI mo → ∀ x8 : Int32, x8 = nI k + 1 → (wX11_slowestLine_17 (zSl S) Q (d + 1)) 0 v (nI cnt) (nI k) (iI (rTf (r) q k)) x8 σ)) := by
      refine ⟨fun hl x7 e7 => ?_, fun hl x8 e8 => ?_⟩
      · rw [iI_le (by omega) (by omega)] at hl
        rw [if_pos hl] at hQ
        subst e7
        rw [nI_1]
        exact C_slow17 W hq hc hc2 d (k + 1) b mo (by omega) hm hQ
      · rw [iI_le (by omega) (by omega)] at hl
        rw [if_neg hl] at hQ
        subst e8
        rw [nI_1]
        exact C_slow17 W hq hc hc2 d (k + 1) _ _ (by omega) (by omega) hQ
    show wxX11_lineAt (zSl S) σ 0 v (nI k) _ (fun _ _ => False)
    refine c_lineAt W (fun q' k' hq' hw' hk' hk2' => ?_) (fun hn => hn ⟨q, k, hq, rfl, by omega, by omega⟩)
    have hqq : q' = q := by
      rcases hq with ⟨x, rfl⟩ | ⟨x, rfl⟩ <;> rcases hq' with ⟨y, rfl⟩ | ⟨y, rfl⟩
      · rfl
      · rw [x] at y; exact absurd y (by decide)
      · rw [x] at y; exact absurd y (by decide)
      · rfl
    have hkk : k' = k := ((nI_eq (by omega) (by omega)).mp hw').symm
    subst hqq hkk
    show wxX11_officeAt (zSl S) σ 0 v _ (fun _ _ => False)
    rcases hq with ⟨hv, rfl⟩ | ⟨hv, rfl⟩
    · exact c_office W.st (fun _ => C_toSend W (q := 0) (by decide) hk' hk2' fin) (fun h => by rw [hv] at h; exact absurd h (by decide)) (fun h => h (Or.inl hv))
    · exact c_office W.st (fun h => by rw [hv] at h; exact absurd h (by decide)) (fun _ => C_toSend W (q := 1) (by decide) hk' hk2' fin) (fun h => h (Or.inr hv))
section QRUN
variable {ln : Nat → Nat} {b p N : Nat}
theorem C_run34 (hp : p + 127 ≤ 261 ∨ 261 + 16 ≤ p) (hN : N ≤ 512) {Q : Int32 → zS → Prop} {m : Nat} (hm : m ≤ 10000) {bf : Int32} : ∀ (d k : Nat) (σ : zS) (r : Nat → Int32), k + d = m → gr σ 0 3 = some 261 → zMs (gr σ) ln 261 → gr σ 261 0 = some p → zPl σ ln p r → KM σ 261 r → zEv r N → (r 5).toInt + d ≤ 110000 → (∀ σ', KM σ' 261 (rN d r) → zFr (zB16 261) σ σ' → zPl σ' ln p (rN d r) → Q (rN d r 16 - bf) σ') → wX11_run_34 ln Q (d + 1) 0 (nI m) bf (nI k) σ
  | 0, k, σ, r, hk, g3, S, gp, PL, K, E, hT, hq => by
    have e : nI m ≤ nI k := nI_le (by omega) (by omega)
    have e9 : gi σ 261 9 = r 16 := K.1.2.2.2.2.2.2.2.2.1
    rw [wX11_run_34]
    refine ⟨fun _ => ⟨261, g3, ?_⟩, fun h => absurd e h⟩
    rw [e9]
    exact hq σ K zFr.rf PL
  | d + 1, k, σ, r, hk, g3, S, gp, PL, K, E, hT, hq => by
    have e : ¬ nI m ≤ nI k := nI_ge (by omega) (by omega)
    rw [wX11_run_34]
    refine ⟨fun h => absurd h e, fun _ => ⟨261, g3, ?_⟩⟩
    refine C_tickS S gp hp PL K hN E (by omega) (fun σ' K' F PL' x2 e2 => ?_)
    subst e2
    rw [nI_1]
    obtain ⟨k1, k2, k3⟩ := E_T E hN (by omega)
    exact C_run34 hp hN hm d (k + 1) σ' (rT r) (by omega) (by rw [F.1]; exact g3) (zMs_e S F.1) (by rw [F.1]; exact gp) PL' K' k1 (by omega) (fun σ2 K2 F2 P2 => hq σ2 K2 (F.tr F2) P2)
end QRUN
