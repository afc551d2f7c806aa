/-! THE CLASS'S CALLS: looks -/
section QL
variable {S : zSp} {σ : zS} {r : Nat → Int32} {N p p' s m : Nat} {h : Nat → Nat → Int32}
theorem q_positions (W : qW S σ r N p p' s m h) {Q : Int32 → zS → Prop} (hq : Q (r 0) σ) : wX11_positions (zSl S) σ 0 Q := by
  refine ⟨p, W.gp, ?_⟩
  rw [W.pl.1.1]
  exact hq
theorem q_time (W : qW S σ r N p p' s m h) {Q : Int32 → zS → Prop} (hq : Q (r 5) σ) : wX11_time (zSl S) σ 0 Q := by
  refine ⟨261, W.g3, ?_⟩
  rw [show gi σ 261 1 = r 5 from W.km.1.1]
  exact hq
theorem q_sender (W : qW S σ r N p p' s m h) {Q : Int32 → zS → Prop} (hq : Q (r 6) σ) : wX11_sender (zSl S) σ 0 Q := by
  refine ⟨261, W.g3, ?_⟩
  rw [show gi σ 261 3 = r 6 from W.km.1.2.2.1]
  exact hq
theorem q_pulses (W : qW S σ r N p p' s m h) {Q : Int32 → zS → Prop} (hq : Q (r 16) σ) : wX11_pulses (zSl S) σ 0 Q := by
  refine ⟨261, W.g3, ?_⟩
  rw [show gi σ 261 9 = r 16 from W.km.1.2.2.2.2.2.2.2.2.1]
  exact hq
theorem q_underWay (W : qW S σ r N p p' s m h) {Q : Int32 → zS → Prop} (hq : Q (r 19) σ) : wX11_underWay (zSl S) σ 0 Q := by
  refine ⟨261, W.g3, 271, W.sm.1.2.2.2.1, ?_⟩
  show Q (gi σ 271 3) σ
  rw [show gi σ 271 3 = r 19 from W.km.2.2.2.2.1.2.1]
  exact hq
theorem q_eventCount (W : qW S σ r N p p' s m h) {Q : Int32 → zS → Prop} (hq : Q (r 18) σ) : wX11_eventCount (zSl S) σ 0 Q := by
  refine ⟨261, W.g3, 273, W.sm.1.2.2.2.2.1, ?_⟩
  show Q (gi σ 273 3) σ
  rw [show gi σ 273 3 = r 18 from W.km.2.2.2.2.2.1.2.1]
  exact hq
theorem q_silence (W : qW S σ r N p p' s m h) (h6 : r 6 = -1) {Q : Int32 → zS → Prop} (hq : Q 0 σ) : wX11_silence (zSl S) σ 0 Q := by
  refine ⟨261, W.g3, ?_⟩
  rw [show gi σ 261 3 = r 6 from W.km.1.2.2.1, h6]
  exact ⟨fun _ => hq, fun h => absurd rfl h⟩
theorem q_nextPulseIn (W : qW S σ r N p p' s m h) (h6 : r 6 = -1) {Q : Int32 → zS → Prop} (hq : Q (-1) σ) : wX11_nextPulseIn (zSl S) σ 0 Q := by
  refine ⟨261, W.g3, ?_⟩
  have hcn := C_next (σ := σ) W.sm W.gm (Or.inl W.pb) W.pl W.km W.w (fun ha => absurd h6 ha.1) (Q := fun r3 σ2 => ((r3 = (-1) → Q (-1) σ2) ∧ (¬ r3 = (-1) → ∃ j4 : Nat, gr σ2 0 3 = some j4 ∧ ∃ j5 : Nat, gr σ2 0 3 = some j5 ∧ ∀ x6 : Int32, x6 = gi σ2 j5 3 → wX3_office (zSl S) σ2 j4 x6 (fun r8 σ7 => ∃ j9 : Nat, gr σ7 0 6 = some j9 ∧ wX6_circle (zSl S) σ7 j9 (fun r11 σ10 => ∀ x12 : Int32, x12 = gi σ7 r8 1 → ∀ x13 : Int32, x13 = gi σ7 r8 0 → wX11_ticksToPass (zSl S) σ10 r3 x13 x12 r11 (fun r15 σ14 => Q r15 σ14))))))
  rw [zcs_self] at hcn
  exact hcn (fun _ => ⟨fun _ => hq, fun h => absurd rfl h⟩) (fun ha => absurd h6 ha.1)
theorem q_phase (W : qW S σ r N p p' s m h) {v : Int32} {q : Nat} (hv : v = 0 ∧ q = 0 ∨ v = 1 ∧ q = 1) {Q : Int32 → zS → Prop} (hq : Q (r (21 + q)) σ) : wX11_phase (zSl S) σ 0 v Q := by
  rcases hv with ⟨rfl, rfl⟩ | ⟨rfl, rfl⟩
  · refine p_office W.st (fun _ => ?_) (fun e => absurd e (by decide)) (Or.inl rfl)
    rw [show gi σ 262 0 = r 21 from W.km.2.1.1.1]
    exact hq
  · refine p_office W.st (fun e => absurd e (by decide)) (fun _ => ?_) (Or.inr rfl)
    rw [show gi σ 265 0 = r 22 from W.km.2.1.2.1]
    exact hq
theorem q_rate (W : qW S σ r N p p' s m h) {v : Int32} {q : Nat} (hv : v = 0 ∧ q = 0 ∨ v = 1 ∧ q = 1) {Q : Int32 → zS → Prop} (hq : Q (r (23 + q)) σ) : wX11_rate (zSl S) σ 0 v Q := by
  rcases hv with ⟨rfl, rfl⟩ | ⟨rfl, rfl⟩
  · refine p_office W.st (fun _ => ?_) (fun e => absurd e (by decide)) (Or.inl rfl)
    rw [show gi σ 262 1 = r 23 from W.km.2.1.1.2.1]
    exact hq
  · refine p_office W.st (fun e => absurd e (by decide)) (fun _ => ?_) (Or.inr rfl)
    rw [show gi σ 265 1 = r 24 from W.km.2.1.2.2.1]
    exact hq
theorem q_prints1 (W : qW S σ r N p p' s m h) {Q : Int32 → zS → Prop} (hq : Q (r 32) σ) : wX11_prints (zSl S) σ 0 1 Q := by
  refine p_office W.st (fun e => absurd e (by decide)) (fun _ => ?_) (Or.inr rfl)
  rw [show gi σ 265 3 = r 32 from W.km.2.1.2.2.2.2.1]
  exact hq
theorem q_linesDone0 (W : qW S σ r N p p' s m h) {Q : Int32 → zS → Prop} (hq : Q (r 27) σ) : wX11_linesDone (zSl S) σ 0 0 Q := by
  refine p_office W.st (fun _ => ?_) (fun e => absurd e (by decide)) (Or.inl rfl)
  rw [show gi σ 262 2 = r 27 from W.km.2.1.1.2.2.1]
  exact hq
theorem q_meanOffset1 (W : qW S σ r N p p' s m h) (h32 : r 32 = 0) {Q : UInt64 → zS → Prop} (hq : Q FP.dconst0 σ) : wX11_meanOffset (zSl S) σ 0 1 Q := by
  refine p_office W.st (fun e => absurd e (by decide)) (fun _ => ⟨fun _ => hq, fun e => absurd ?_ e⟩) (Or.inr rfl)
  rw [show gi σ 265 3 = r 32 from W.km.2.1.2.2.2.2.1]
  exact h32
theorem q_lineCount (W : qW S σ r N p p' s m h) {v : Int32} {q : Nat} (hv : v = 0 ∧ q = 0 ∨ v = 1 ∧ q = 1) {Q : Int32 → zS → Prop} (hq : Q (r (25 + q)) σ) : wX11_lineCount (zSl S) σ 0 v Q := by
  rcases hv with ⟨rfl, rfl⟩ | ⟨rfl, rfl⟩
  · refine p_desk W.st W.gp W.ps (fun _ => ?_) (fun e => absurd e (by decide)) (Or.inl rfl)
    rw [show gi σ (p + 3) 2 = r 25 from W.pl.2.2.1.1]
    exact hq
  · refine p_desk W.st W.gp W.ps (fun e => absurd e (by decide)) (fun _ => ?_) (Or.inr rfl)
    rw [show gi σ (p + 65) 2 = r 26 from W.pl.2.2.1.2]
    exact hq
/-- a line that is there -/
theorem p_lineAt (W : qW S σ r N p p' s m h) {k : Nat} (hk : k < 12) (hk2 : (k : Int) < (r 25).toInt) {Q : Nat → zS → Prop} (hq : Q (p + 5 + 5 * k) σ) : wX11_lineAt (zSl S) σ 0 0 (nI k) Q := by
  show wxX11_lineAt (zSl S) σ 0 0 (nI k) Q (fun _ _ => False)
  refine c_lineAt W (fun q' k' hq' hw' hk' hk2' => ?_) (fun hn => hn ⟨0, k, Or.inl ⟨rfl, rfl⟩, rfl, hk, hk2⟩)
  rcases hq' with ⟨-, rfl⟩ | ⟨hx, -⟩
  · have : k' = k := ((nI_eq (by omega) (by omega)).mp hw').symm
    subst this
    exact hq
  · exact absurd hx (by decide)
theorem q_lineLength (W : qW S σ r N p p' s m h) {k : Nat} (hk : k < 12) (hk2 : (k : Int) < (r 25).toInt) {Q : Int32 → zS → Prop} (hq : Q (r (219 + k)) σ) : wX11_lineLength (zSl S) σ 0 0 (nI k) Q := by
  refine p_lineAt W hk hk2 ⟨p + 6 + 5 * k, (W.ps.2.2.2 0 (by decide) k hk).2.1, ?_⟩
  show Q (gi σ (p + 6 + 5 * k) 1) σ
  have := W.ch 0 (by decide) k hk hk2
  rw [show p + 6 + 62 * 0 + 5 * k = p + 6 + 5 * k by omega, show 219 + 12 * 0 + k = 219 + k by omega] at this
  rw [this]
  exact hq
theorem q_pulsesOf (W : qW S σ r N p p' s m h) {k : Nat} (hk : k < 12) (hk2 : (k : Int) < (r 25).toInt) {Q : Int32 → zS → Prop} (hq : Q (nI (rPath r k).length) σ) : wX11_pulsesOf (zSl S) σ 0 0 (nI k) Q := by
  obtain ⟨x1, x2, x3, x4, x5, x6, x7⟩ := W.ln (show 0 < 2 by decide) hk hk2
  rw [show p + 5 + 62 * 0 + 5 * k = p + 5 + 5 * k by omega] at x1
  rw [show 12 * 0 + k = k by omega] at x4
  refine p_lineAt W hk hk2 ⟨_, x1, ?_⟩
  show Q (gi σ _ 1) σ
  rw [x4]
  exact hq
theorem q_pulseOf (W : qW S σ r N p p' s m h) {k i : Nat} (hk : k < 12) (hk2 : (k : Int) < (r 25).toInt) (hi : i < (rPath r k).length) {Q : Int32 → zS → Prop} (hq : Q ((rPath r k).getD i 0) σ) : wX11_pulseOf (zSl S) σ 0 0 (nI k) (nI i) Q := by
  obtain ⟨x1, x2, x3, x4, x5, x6, x7⟩ := W.ln (show 0 < 2 by decide) hk hk2
  rw [show p + 5 + 62 * 0 + 5 * k = p + 5 + 5 * k by omega] at x1
  rw [show 12 * 0 + k = k by omega] at x4 x5 x6 x7
  refine p_lineAt W hk hk2 ⟨_, x1, ?_⟩
  show wxX11_itemAt (zSl S) σ _ (nI i) Q (fun _ _ => False)
  refine c_itemAt x2 x3 (by decide) x4 x7 (fun k' h1 h2 => ?_) (fun hn => hn ?_)
  · have : k' = i := ((nI_eq (by omega) (by omega)).mp h2).symm
    subst this
    rw [x5 _ h1]
    exact hq
  · rw [nI_toInt (by omega)]
    omega
theorem q_ticksFor (W : qW S σ r N p p' s m h) {k : Nat} (hk : k < 12) (hk2 : (k : Int) < (r 25).toInt) {Q : Int32 → zS → Prop} (hq : Q (iI (rTf r 0 k)) σ) : wX11_ticksFor (zSl S) σ 0 0 (nI k) Q := by
  refine p_lineAt W hk hk2 (p_office W.st (fun _ => ?_) (fun e => absurd e (by decide)) (Or.inl rfl))
  have := C_toSend W (q := 0) (by decide) hk hk2 (Q := Q) hq
  rw [show p + 5 + 62 * 0 + 5 * k = p + 5 + 5 * k by omega] at this
  exact this
theorem q_slowest0 (W : qW S σ r N p p' s m h) {Q : Int32 → zS → Prop} (hq : Q (slo (rTf r 0) (r 25).toNatClampNeg 0 (-1, -1)).1 σ) : wX11_slowestLine (zSl S) σ 0 0 Q := by
  have c2 : 0 ≤ (r 25).toInt ∧ (r 25).toInt ≤ 12 := W.w.L0
  have cc := ncl c2.1
  have e0 : gi σ (p + 3) 2 = r 25 := W.pl.2.2.1.1
  have ec : r 25 = nI (r 25).toNatClampNeg := by rw [neq, nI_toInt (by omega)]; omega
  have hs := C_slow17 W (v := 0) (q := 0) (Or.inl ⟨rfl, rfl⟩) (cnt := (r 25).toNatClampNeg) (show (((r 25).toNatClampNeg : Nat) : Int) = (r 25).toInt from cc) (by omega) (Q := Q) (r 25).toNatClampNeg 0 (-1) (-1) (by omega) (by omega) hq
  refine p_desk W.st W.gp W.ps (fun _ x3 e3 => ⟨(r 25).toNatClampNeg + 1, ?_⟩) (fun e => absurd e (by decide)) (Or.inl rfl)
  rw [e0, ec] at e3
  rw [e3]
  exact hs
theorem q_facing (W : qW S σ r N p p' s m h) {v : Int32} {q : Nat} (hv : v = 0 ∧ q = 0 ∨ v = 1 ∧ q = 1) {Q : Int32 → zS → Prop} (hq : Q (mI (((r (21 + q)).toInt + 500) / 1000) (r 0).toInt) σ) : wX11_facing (zSl S) σ 0 v Q := by
  have hN := W.w.N
  have hph := W.w.ph2 (q := q) (by omega)
  have t5 : (500 : Int32).toInt = 500 := rfl
  have t1 : (1000 : Int32).toInt = 1000 := rfl
  have e1 : (r (21 + q) + 500).toInt = (r (21 + q)).toInt + 500 := by rw [nadd (by rw [t5]; omega) (by rw [t5]; omega), t5]
  have e2 : ((r (21 + q) + 500) / 1000).toInt = ((r (21 + q)).toInt + 500) / 1000 := by rw [ndiv (by rw [e1]; omega) (by rw [t1]; decide), e1, t1]
  have fin : ∀ a, gi σ a 0 = r (21 + q) → wX4_nearestPosition (zSl S) σ a (fun r4 σ3 => ∃ j5 : Nat, gr σ3 0 6 = some j5 ∧ ∀ x6 : Int32, x6 = gi σ3 j5 0 → wX11_modulo (zSl S) σ3 r4 x6 (fun r8 σ7 => Q r8 σ7)) := fun a ea => by
    unfold wX4_nearestPosition
    rw [ea]
    refine ⟨p, W.gp, fun x6 e6 => ?_⟩
    rw [W.pl.1.1] at e6
    subst e6
    refine wmodulo (by omega) ?_
    rw [e2]
    exact hq
  rcases hv with ⟨rfl, rfl⟩ | ⟨rfl, rfl⟩
  · exact p_office W.st (fun _ => fin 262 W.km.2.1.1.1) (fun e => absurd e (by decide)) (Or.inl rfl)
  · exact p_office W.st (fun e => absurd e (by decide)) (fun _ => fin 265 W.km.2.1.2.1) (Or.inr rfl)
/-! refusals -/
theorem x_phase (W : qW S σ r N p p' s m h) {v : Int32} (hv : ¬ (v = 0 ∨ v = 1)) {Q : Int32 → zS → Prop} {X : String → zS → Prop} (hx : X "java/lang/IndexOutOfBoundsException" σ) : wxX11_phase (zSl S) σ 0 v Q X :=
  c_office W.st (fun e => absurd (Or.inl e) hv) (fun e => absurd (Or.inr e) hv) (fun _ => hx)
theorem x_rate (W : qW S σ r N p p' s m h) {v : Int32} (hv : ¬ (v = 0 ∨ v = 1)) {Q : Int32 → zS → Prop} {X : String → zS → Prop} (hx : X "java/lang/IndexOutOfBoundsException" σ) : wxX11_rate (zSl S) σ 0 v Q X :=
  c_office W.st (fun e => absurd (Or.inl e) hv) (fun e => absurd (Or.inr e) hv) (fun _ => hx)
theorem x_character (W : qW S σ r N p p' s m h) {v w : Int32} (hv : v < 2 ∨ ¬ v < r 0) {Q : Int32 → zS → Prop} {X : String → zS → Prop} (hx : X "java/lang/IndexOutOfBoundsException" σ) : wxX11_character (zSl S) σ 0 v w Q X := by
  refine ⟨fun _ => hx, fun h2 => ⟨p, W.gp, fun h3 => ?_, fun _ => hx⟩⟩
  rw [W.pl.1.1] at h3
  exact absurd h3 (hv.resolve_left h2)
theorem x_lineLength (W : qW S σ r N p p' s m h) {w : Int32} (hw : ¬ zLok r 0 w) {Q : Int32 → zS → Prop} {X : String → zS → Prop} (hx : X "java/lang/IndexOutOfBoundsException" σ) : wxX11_lineLength (zSl S) σ 0 0 w Q X :=
  c_lineAt W (fun q k h1 h2 h3 h4 => absurd ⟨q, k, h1, h2, h3, h4⟩ hw) (fun _ => hx)
theorem x_pulseOf0 (W : qW S σ r N p p' s m h) (h0 : (0 : Int) < (r 25).toInt) {i : Nat} (hi : (rPath r 0).length ≤ i) (hi2 : i < 1000) {Q : Int32 → zS → Prop} {X : String → zS → Prop} (hx : X "java/lang/IndexOutOfBoundsException" σ) : wxX11_pulseOf (zSl S) σ 0 0 0 (nI i) Q X := by
  refine c_lineAt W (fun q k h1 h2 h3 h4 => ?_) (fun hn => absurd ⟨0, 0, Or.inl ⟨rfl, rfl⟩, rfl, by decide, h0⟩ hn)
  rcases h1 with ⟨-, rfl⟩ | ⟨hx, -⟩
  · have : k = 0 := ((nI_eq (a := 0) (by omega) (by omega)).mp h2).symm
    subst this
    obtain ⟨x1, x2, x3, x4, x5, x6, x7⟩ := W.ln (show 0 < 2 by decide) h3 h4
    refine ⟨_, x1, c_itemAt x2 x3 (by decide) x4 x7 (fun k' y1 y2 => ?_) (fun _ => hx)⟩
    have : i = k' := (nI_eq (by omega) (by omega)).mp y2
    have e0 : 12 * 0 + 0 = 0 := rfl
    rw [e0] at y1
    omega
  · exact absurd hx (by decide)
theorem x_received (W : qW S σ r N p p' s m h) (h30 : r 30 = 0) {Q : Int32 → zS → Prop} {X : String → zS → Prop} (hx : X "java/lang/IndexOutOfBoundsException" σ) : wxX11_receivedCharacter (zSl S) σ 0 1 0 Q X := by
  refine c_office W.st (fun e => absurd e (by decide)) (fun _ => ⟨266, W.sm.2.1.2.1, ?_⟩) (fun e => absurd (Or.inr rfl) e)
  refine c_itemAt (m := 0) (W.sm.2.1.2.2.2.1) (W.sm.2.2.2.1) (by decide) ?_ (Nat.zero_le _) (fun k hk => absurd hk (Nat.not_lt_zero k)) (fun _ => hx)
  rw [show gi σ 266 1 = r 30 from W.km.2.2.1.2.1, h30]
  rfl
theorem x_event (W : qW S σ r N p p' s m h) (h18 : r 18 = 0) {w : Int32} {Q : Int32 → zS → Prop} {X : String → zS → Prop} (hx : X "java/lang/IndexOutOfBoundsException" σ) : wxX11_event (zSl S) σ 0 0 w Q X := by
  refine ⟨fun e => absurd e (by decide), fun _ => ⟨261, W.g3, 273, W.sm.1.2.2.2.2.1, ?_⟩⟩
  unfold wX8_size
  rw [show gi σ 273 3 = r 18 from W.km.2.2.2.2.2.1.2.1, h18]
  exact ⟨fun e => absurd e (by decide), fun _ => hx⟩
theorem x_buffer (W : qW S σ r N p p' s m h) (h11 : r 11 = 0) {Q : Int32 → zS → Prop} {X : String → zS → Prop} (hx : X "java/lang/IndexOutOfBoundsException" σ) : wxX11_bufferCharacter (zSl S) σ 0 0 Q X := by
  refine ⟨261, W.g3, 268, W.sm.1.2.2.1, 269, W.sm.2.1.2.2.2.2.1, ?_⟩
  refine c_itemAt (m := 0) (W.sm.2.1.2.2.2.2.2.1) (W.sm.2.2.2.2.1) (by decide) ?_ (Nat.zero_le _) (fun k hk => absurd hk (Nat.not_lt_zero k)) (fun _ => hx)
  rw [show gi σ 269 1 = r 11 from W.km.2.2.2.1.2.2.2.1, h11]
  rfl
theorem x_formatted (W : qW S σ r N p p' s m h) {Q : Int32 → zS → Prop} {X : String → zS → Prop} (hx : X "java/lang/IndexOutOfBoundsException" σ) : wxX11_formattedCharacter (zSl S) σ 0 0 Q X := by
  refine ⟨fun e => absurd e (by decide), fun _ => ⟨5, W.1.1.2.2.1, ?_⟩⟩
  show ((0 : Int32) < gi σ 5 3 → _) ∧ (¬ (0 : Int32) < gi σ 5 3 → _)
  rw [W.2.2.2.2.2.2.1]
  exact ⟨fun e => absurd e (by decide), fun _ => hx⟩
end QL
