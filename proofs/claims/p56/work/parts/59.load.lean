/-! THE LAW loads its text, and what the class refuses -/
theorem qA_w {i : Nat} (h : zWd4 i) : qA (zSbyt.getD i []) := fun k hk => by
  obtain ⟨b1, -, b3⟩ := h
  exact b3 k (by omega)
theorem qA_dec {v : Nat} : qA (dec v) := fun k hk => by
  have hk2 : k < nd v := by rw [dec_len] at hk; exact hk
  have e : (dec v).getD k 0 = dg v (nd v - 1 - k) := dl_get v (nd v) k hk2
  rw [e]
  have h : (dg v (nd v - 1 - k)).toInt = 48 + ((v / 10 ^ (nd v - 1 - k) % 10 : Nat) : Int) := by
    unfold dg
    rw [nI_toInt (by omega)]
    omega
  omega
theorem qA_c {x : Int32} {l : List Int32} (hx : 0 ≤ x.toInt ∧ x.toInt < 128) (hl : qA l) : qA (x :: l) := fun k hk => by
  match k with
  | 0 => exact hx
  | k + 1 =>
    rw [List.length_cons] at hk
    exact hl k (by omega)
theorem qA_sp : ∀ l : List Int32, qA l → qA (sp l)
  | [], _ => qA_nil
  | x :: l, h => by
    have hx := h 0 (by rw [List.length_cons]; omega)
    have hl : qA l := fun k hk => h (k + 1) (by rw [List.length_cons]; omega)
    rw [sp]
    exact qA_c (by decide) (qA_c hx (qA_sp l hl))
theorem qA_mK (L : Nat) (xs : Nat → Int32) : ∀ d k, qA (mK L xs d k)
  | 0, _ => qA_nil
  | d + 1, k => by
    rw [mK]
    refine qA_app ?_ (qA_app (qA_sp _ (qA_of (lT_ok L xs k))) (qA_mK L xs d (k + 1)))
    split
    · exact qA_nil
    · exact qA_w wds.2.2.2.2.2.1
theorem qA_qT (L : Nat) (xs : Nat → Int32) : qA (qT L xs) := by
  obtain ⟨d1, d2, d3, d4, d5, -, -⟩ := wds
  have w := fun {i : Nat} (h : zWd4 i) => qA_w h
  have b : qA [32] := qA_one (by decide)
  unfold qT hT
  exact qA_app (qA_app (qA_app (qA_app (qA_app (qA_app (qA_app (qA_app (qA_app (qA_app (qA_app (qA_app (qA_app (qA_app (qA_app (qA_app (w d1) qA_dec) (w d2)) qA_dec) b) qA_dec) (w d2)) qA_dec) b) qA_dec) (w d3)) qA_dec) (w d4)) qA_dec) (w d5)) (qA_mK L xs _ _)) (qA_one (by decide))
/-- the text is loaded -/
theorem l_load {L : Nat} {xs : Nat → Int32} {Q : Int32 → zSp → zS → Prop} {S : zSp} {σ : zS} {t : Nat} {r0 : Nat → Int32} {N p p' s m : Nat} {h : Nat → Nat → Int32} (W : qW S σ r0 N p p' s m h) (I : gi σ 1 1 = 0) (H : qS S σ t (qT L xs)) (hq : ∀ S' σ' r, qR0 L xs r → qW S' σ' r N p' p s 0 h → Q (nI (qLn L xs)) S' σ') : wL_load S σ 0 t Q := by
  have hA := qA_qT L xs
  have hl := qT_len L xs
  refine l_append hA (by omega) W I H (fun k v S1 σ1 hk hk2 W1 I1 H1 => s_len H1 (q_truncate W1 (n := 20 * k) (by omega) hk I1 (fun σ2 F2 I2 => ?_)))
  have hz : zAt (gi σ2 2) 0 (qT L xs) := fun j hj => by
    rw [Nat.zero_add, I2.2 j hj, bT_in hA hj]
  obtain ⟨r, hr, R⟩ := q_text hz
  refine q_load (W1.in12 F2) (n := (qT L xs).length) (by omega) I2 (fun j hj => ?_) hr (fun σ3 W3 _ => ?_)
  · have := bT_lt hA j
    show 0 ≤ (nI (bT (qT L xs) j)).toInt ∧ (nI (bT (qT L xs) j)).toInt < 256
    rw [nI_toInt (by omega)]
    omega
  · have e26 : r 26 = 0 := by rw [R.2.2.2.1 26 (by decide) (by decide)]; rfl
    have e : r 25 + r 26 = nI (qLn L xs) := by
      have hb := qLn_b L xs
      have z0 : (0 : Int32).toInt = 0 := rfl
      rw [R.2.2.1, e26, neq, nadd (by rw [nI_toInt (by omega), z0]; omega) (by rw [nI_toInt (by omega), z0]; omega), z0]
      omega
    rw [e]
    exact hq S1 σ3 r R W3
section QREF
variable {S : zSp} {σ : zS} {r : Nat → Int32} {N p p' s m : Nat} {h : Nat → Nat → Int32}
theorem n_phase (W : qW S σ r N p p' s m h) {v : Int32} (hv : ¬ (v = 0 ∨ v = 1)) {Q : Int32 → zS → Prop} (hq : Q 1 σ) : wL_noPhase (zSl S) σ 0 v Q := x_phase W hv ⟨rfl, hq⟩
theorem n_rate (W : qW S σ r N p p' s m h) {v : Int32} (hv : ¬ (v = 0 ∨ v = 1)) {Q : Int32 → zS → Prop} (hq : Q 1 σ) : wL_noRate (zSl S) σ 0 v Q := x_rate W hv ⟨rfl, hq⟩
theorem n_character (W : qW S σ r N p p' s m h) {v : Int32} (hv : v < 2 ∨ ¬ v < r 0) {Q : Int32 → zS → Prop} (hq : Q 1 σ) : wL_noCharacter (zSl S) σ 0 v Q := x_character W hv ⟨rfl, hq⟩
theorem n_line (W : qW S σ r N p p' s m h) {v : Int32} (hv : ¬ zLok r 0 v) {Q : Int32 → zS → Prop} (hq : Q 1 σ) : wL_noLine (zSl S) σ 0 v Q := x_lineLength W hv ⟨rfl, hq⟩
theorem n_pulse (W : qW S σ r N p p' s m h) (h0 : (0 : Int) < (r 25).toInt) {i : Nat} (hi : (rPath r 0).length ≤ i) (hi2 : i < 1000) {Q : Int32 → zS → Prop} (hq : Q 1 σ) : wL_noPulse (zSl S) σ 0 (nI i) Q := x_pulseOf0 W h0 hi hi2 ⟨rfl, hq⟩
theorem n_received (W : qW S σ r N p p' s m h) (h30 : r 30 = 0) {Q : Int32 → zS → Prop} (hq : Q 1 σ) : wL_noReceived (zSl S) σ 0 0 Q := x_received W h30 ⟨rfl, hq⟩
theorem n_event (W : qW S σ r N p p' s m h) (h18 : r 18 = 0) {Q : Int32 → zS → Prop} (hq : Q 1 σ) : wL_noEvent (zSl S) σ 0 0 Q := x_event W h18 ⟨rfl, hq⟩
theorem n_buffer (W : qW S σ r N p p' s m h) (h11 : r 11 = 0) {Q : Int32 → zS → Prop} (hq : Q 1 σ) : wL_noBuffer (zSl S) σ 0 0 Q := x_buffer W h11 ⟨rfl, hq⟩
theorem n_formatted (W : qW S σ r N p p' s m h) {Q : Int32 → zS → Prop} (hq : Q 1 σ) : wL_noFormatted (zSl S) σ 0 0 Q := x_formatted W ⟨rfl, hq⟩
theorem l_refused {L : Nat} {xs : Nat → Int32} (hL : L ≤ 260) (W : qW S σ r N p p' s m h) (R : qR0 L xs r) {Q : Int32 → zSp → zS → Prop} (hq : Q 1 S σ) : wL_areRefused S σ L xs 0 Q := by
  obtain ⟨⟨r0, -, -⟩, -, r25, ro, -⟩ := R
  have hLn := qLn_b L xs
  have e25 : (r 25).toInt = qLn L xs := by rw [r25, nI_toInt (by omega)]
  have hp := rPath_len W.w (a := 0) (by decide)
  refine n_phase W (by decide) (n_phase W (by decide) (n_rate W (by decide) (fun x7 e7 => n_character W (Or.inl (by decide)) (l_positions hL (n_character W (Or.inr ?_) (fun x14 e14 => l_lines hL (n_line W ?_ (q_pulsesOf (k := 0) W (by decide) (by omega) (n_pulse W (by omega) (Nat.le_refl _) (by omega) (fun x23 e23 => ?_))))))))))
  · rw [r0, nlt]
    omega
  · rintro ⟨q, k, h1, h2, h3, h4⟩
    rcases h1 with ⟨-, rfl⟩ | ⟨hx, -⟩
    · have : qLn L xs = k := (nI_eq (by omega) (by omega)).mp h2
      rw [Nat.add_zero] at h4
      omega
    · exact absurd hx (by decide)
  · have e7' : x7 = 3 := e7.trans (by decide)
    have e14' : x14 = 2 := e14.trans (by decide)
    have e23' : x23 = 2 := e23.trans (by decide)
    subst e7' e14' e23'
    have h30 : r 30 = 0 := by rw [ro 30 (by decide) (by decide)]; rfl
    have h18 : r 18 = 0 := by rw [ro 18 (by decide) (by decide)]; rfl
    have h11 : r 11 = 0 := by rw [ro 11 (by decide) (by decide)]; rfl
    exact ⟨fun _ => ⟨fun _ => ⟨fun _ => n_received W h30 ⟨fun _ => n_event W h18 ⟨fun _ => n_buffer W h11 ⟨fun _ => n_formatted W ⟨fun _ => hq, fun e => absurd rfl e⟩, fun e => absurd rfl e⟩, fun e => absurd rfl e⟩, fun e => absurd rfl e⟩, fun e => absurd rfl e⟩, fun e => absurd rfl e⟩, fun e => absurd rfl e⟩
end QREF
