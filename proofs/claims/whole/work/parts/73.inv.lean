/-! THE INVARIANT of the row; what a signal and a print do to it -/
theorem rClears_out (r : Nat → Int32) {k : Nat} (h : ¬ (11 ≤ k ∧ k ≤ 14)) : rClears r k = r k := by
  unfold rClears
  rw [zu_ne (by omega), zu_ne (by omega), zu_ne (by omega), zu_ne (by omega)]
theorem rEnds_out (r : Nat → Int32) {k : Nat} (h : ¬ (k = 6 ∨ k = 7 ∨ (9 ≤ k ∧ k ≤ 14) ∨ k = 19)) : rEnds r k = r k := by
  unfold rEnds
  rw [rClears_out _ (by omega), zu_ne (by omega), zu_ne (by omega), zu_ne (by omega), zu_ne (by omega), zu_ne (by omega)]
theorem rEnds_at (r : Nat → Int32) : rEnds r 6 = -1 ∧ rEnds r 7 = 0 ∧ rEnds r 9 = 0 ∧ rEnds r 10 = 0 ∧ (∀ k, (11 ≤ k ∧ k ≤ 14) ∨ k = 19 → rEnds r k = 0) := by
  refine ⟨?_, ?_, ?_, ?_, fun k hk => ?_⟩
  · simp only [rEnds, rClears, zu_ap, Nat.reduceEqDiff, if_true, if_false]
  · simp only [rEnds, rClears, zu_ap, Nat.reduceEqDiff, if_true, if_false]
  · simp only [rEnds, rClears, zu_ap, Nat.reduceEqDiff, if_true, if_false]
  · simp only [rEnds, rClears, zu_ap, Nat.reduceEqDiff, if_true, if_false]
  · rcases (show k = 11 ∨ k = 12 ∨ k = 13 ∨ k = 14 ∨ k = 19 by omega) with rfl | rfl | rfl | rfl | rfl <;> simp only [rEnds, rClears, zu_ap, Nat.reduceEqDiff, if_true, if_false]
theorem rDone_out (r : Nat → Int32) {q k : Nat} (h1 : k ≠ 27 + q) (h2 : k ≠ 10) : rDone r q k = r k := by
  unfold rDone
  rw [zu_ne h2, zu_ne h1]
theorem rBegins_out (r : Nat → Int32) {k : Nat} (h1 : k ≠ 7) (h2 : k ≠ 9) : rBegins r k = r k := by
  unfold rBegins
  rw [zu_ne h2, zu_ne h1]
/-- what signals and ends of lines do -/
def zSg (r r' : Nat → Int32) : Prop := (∀ k, ¬ (k = 6 ∨ k = 7 ∨ (9 ≤ k ∧ k ≤ 14) ∨ k = 18 ∨ k = 19 ∨ k = 27 ∨ k = 28 ∨ (99 ≤ k ∧ k < 219)) → r' k = r k) ∧ ((r' 6 = r 6 ∧ r' 7 = 0 ∧ r' 9 = 0 ∧ ∀ k, (11 ≤ k ∧ k ≤ 14) ∨ k = 19 → r' k = r k) ∨ (r' 6 = -1 ∧ r' 7 = 0 ∧ r' 9 = 0 ∧ r' 10 = 0 ∧ ∀ k, (11 ≤ k ∧ k ≤ 14) ∨ k = 19 → r' k = 0))
theorem zo_le {r : Nat → Int32} (h6 : r 6 = 0 ∨ r 6 = 1) : zo r ≤ 1 := by
  unfold zo
  rcases h6 with e | e <;> rw [e] <;> decide
theorem sg_lineDone {r : Nat → Int32} (h6 : r 6 = 0 ∨ r 6 = 1) (he : 0 ≤ (r 18).toInt ∧ (r 18).toInt ≤ 40) : zSg r (rLineDone r) := by
  have hz := zo_le h6
  unfold rLineDone
  split
  · have hb : 0 ≤ (rEnds (rDone r (zo r)) 18).toInt ∧ (rEnds (rDone r (zo r)) 18).toInt ≤ 40 := by rw [rEnds_out _ (by omega), rDone_out _ (by omega) (by omega)]; exact he
    obtain ⟨a1, a2, a3, a4, a5⟩ := rEnds_at (rDone r (zo r))
    refine ⟨fun k hk => ?_, Or.inr ⟨?_, ?_, ?_, ?_, fun k hk => ?_⟩⟩
    · rw [rNotes_out _ hb.1 hb.2 (by omega) (by omega), rEnds_out _ (by omega), rDone_out _ (by omega) (by omega)]
    · rw [rNotes_out _ hb.1 hb.2 (by omega) (by omega)]; exact a1
    · rw [rNotes_out _ hb.1 hb.2 (by omega) (by omega)]; exact a2
    · rw [rNotes_out _ hb.1 hb.2 (by omega) (by omega)]; exact a3
    · rw [rNotes_out _ hb.1 hb.2 (by omega) (by omega)]; exact a4
    · rw [rNotes_out _ hb.1 hb.2 (by omega) (by omega)]; exact a5 k hk
  · refine ⟨fun k hk => ?_, Or.inl ⟨?_, ?_, ?_, fun k hk => ?_⟩⟩
    · rw [rBegins_out _ (by omega) (by omega), rDone_out _ (by omega) (by omega)]
    · rw [rBegins_out _ (by omega) (by omega), rDone_out _ (by omega) (by omega)]
    · unfold rBegins; rw [zu_ne (by decide), zu_self]
    · unfold rBegins; rw [zu_self]
    · rw [rBegins_out _ (by omega) (by omega), rDone_out _ (by omega) (by omega)]
theorem sg_lineFailed {r : Nat → Int32} (h6 : r 6 = 0 ∨ r 6 = 1) (he : 0 ≤ (r 18).toInt ∧ (r 18).toInt ≤ 40) : zSg r (rLineFailed r) := by
  unfold rLineFailed
  split
  · have hk : ∀ k, k ≠ 18 → ¬ (99 ≤ k ∧ k < 219) → rNotes r 4 (r (27 + zo r)) k = r k := fun k h1 h2 => rNotes_out r he.1 he.2 h1 h2
    obtain ⟨s1, s2⟩ := sg_lineDone (r := rNotes r 4 (r (27 + zo r))) (by rw [hk 6 (by decide) (by decide)]; exact h6) (rNotes_18 r _ _ he.1 he.2)
    refine ⟨fun k h => (s1 k h).trans (hk k (by omega) (by omega)), ?_⟩
    rcases s2 with ⟨a1, a2, a3, a4⟩ | s2
    · exact Or.inl ⟨a1.trans (hk 6 (by decide) (by decide)), a2, a3, fun k h => (a4 k h).trans (hk k (by omega) (by omega))⟩
    · exact Or.inr s2
  · have ha : ∀ k, k ≠ 7 → k ≠ 9 → k ≠ 10 → rAgain r k = r k := fun k h1 h2 h3 => by unfold rAgain; rw [rBegins_out _ h1 h2, zu_ne h3]
    have hb : 0 ≤ (rAgain r 18).toInt ∧ (rAgain r 18).toInt ≤ 40 := by rw [ha 18 (by decide) (by decide) (by decide)]; exact he
    refine ⟨fun k hk => ?_, Or.inl ⟨?_, ?_, ?_, fun k hk => ?_⟩⟩
    · rw [rNotes_out _ hb.1 hb.2 (by omega) (by omega), ha k (by omega) (by omega) (by omega)]
    · rw [rNotes_out _ hb.1 hb.2 (by omega) (by omega), ha 6 (by omega) (by omega) (by omega)]
    · rw [rNotes_out _ hb.1 hb.2 (by omega) (by omega)]; unfold rAgain rBegins; rw [zu_ne (by decide), zu_self]
    · rw [rNotes_out _ hb.1 hb.2 (by omega) (by omega)]; unfold rAgain rBegins; rw [zu_self]
    · rw [rNotes_out _ hb.1 hb.2 (by omega) (by omega), ha k (by omega) (by omega) (by omega)]
theorem sg_breaks {r : Nat → Int32} (he : 0 ≤ (r 18).toInt ∧ (r 18).toInt ≤ 40) : zSg r (rBreaks r) := by
  have hb : 0 ≤ (rEnds r 18).toInt ∧ (rEnds r 18).toInt ≤ 40 := by rw [rEnds_out _ (by omega)]; exact he
  obtain ⟨a1, a2, a3, a4, a5⟩ := rEnds_at r
  unfold rBreaks
  refine ⟨fun k hk => ?_, Or.inr ⟨?_, ?_, ?_, ?_, fun k hk => ?_⟩⟩
  · rw [rNotes_out _ hb.1 hb.2 (by omega) (by omega), rEnds_out _ (by omega)]
  · rw [rNotes_out _ hb.1 hb.2 (by omega) (by omega)]; exact a1
  · rw [rNotes_out _ hb.1 hb.2 (by omega) (by omega)]; exact a2
  · rw [rNotes_out _ hb.1 hb.2 (by omega) (by omega)]; exact a3
  · rw [rNotes_out _ hb.1 hb.2 (by omega) (by omega)]; exact a4
  · rw [rNotes_out _ hb.1 hb.2 (by omega) (by omega)]; exact a5 k hk
/-- the buffer's characters -/
def hBuf (r : Nat → Int32) : Prop := ∀ k, k < (r 11).toNatClampNeg → 0 ≤ (r (59 + k)).toInt ∧ (r (59 + k)).toInt < 128
def zx (r : Nat → Int32) (cm : Int) : Prop :=
  (zact r → 0 ≤ (r 9).toInt ∧ (r 9).toInt < (rPath r (zLn r)).length) ∧ (0 ≤ (r 12).toInt ∧ (r 12).toInt ≤ cm) ∧ (r 13 = 0 ∨ r 13 = 1) ∧ (r 14 = 0 ∨ r 14 = 1) ∧
  (-500 * cm ≤ (r 37).toInt ∧ (r 37).toInt ≤ 500 * cm) ∧ (-500 * cm ≤ (r 38).toInt ∧ (r 38).toInt ≤ 500 * cm) ∧
  (r 6 = -1 → r 7 = 0 ∧ r 9 = 0 ∧ r 10 = 0 ∧ r 11 = 0 ∧ r 19 = 0) ∧ hBuf r ∧ zQp r
theorem zx_mono {r : Nat → Int32} {c c' : Int} (h : zx r c) (hc : c ≤ c') : zx r c' := by
  obtain ⟨h1, h2, h3, h4, h5, h6, h7, h8, h9⟩ := h
  exact ⟨h1, ⟨h2.1, by omega⟩, h3, h4, ⟨by omega, by omega⟩, ⟨by omega, by omega⟩, h7, h8, h9⟩
theorem zLn_lt {r : Nat → Int32} (hW : zW r) (h6 : ¬ r 6 = -1) : zLn r < 24 := by
  rcases zact_o hW h6 with h | h
  · rw [h.2.2.1]; have := h.2.2.2.1; omega
  · rw [h.2.2.1]; have := h.2.2.2.1; omega
theorem zLn_len {r : Nat → Int32} (hW : zW r) (h6 : ¬ r 6 = -1) : 2 ≤ (rPath r (zLn r)).length ∧ (rPath r (zLn r)).length ≤ 62 := rPath_len hW (zLn_lt hW h6)
theorem zSg_kp {r r' : Nat → Int32} (h : zSg r r') : zkp r r' := fun k hk => h.1 k (by omega)
theorem zSg_x {r r' : Nat → Int32} (s : zSg r r') (hr6 : r 6 = 0 ∨ r 6 = 1) (hW : zW r) (hW' : zW r') {cm : Int} (h0 : 0 ≤ cm) (h : zx r cm) : zx r' cm := by
  obtain ⟨h1, h2, h3, h4, h5, h6, h7, h8, h9⟩ := h
  have hkp := zSg_kp s
  obtain ⟨s1, s2⟩ := s
  have e9 : r' 9 = 0 := s2.elim (fun x => x.2.2.1) (fun x => x.2.2.1)
  have e11 : ∀ k, (11 ≤ k ∧ k ≤ 14) ∨ k = 19 → r' k = r k ∨ r' k = 0 := fun k hk => s2.elim (fun x => Or.inl (x.2.2.2 k hk)) (fun x => Or.inr (x.2.2.2.2 k hk))
  have z0 : (0 : Int32).toInt = 0 := rfl
  refine ⟨fun ha => ?_, ?_, ?_, ?_, ?_, ?_, fun e => ?_, fun k hk => ?_, h9.c hkp hW⟩
  · rw [e9]
    have := zLn_len hW' ha.1
    exact ⟨by decide, by rw [z0]; omega⟩
  · rcases e11 12 (by omega) with e | e
    · rw [e]; exact h2
    · rw [e]; exact ⟨by decide, by rw [z0]; exact h0⟩
  · rcases e11 13 (by omega) with e | e
    · rw [e]; exact h3
    · exact Or.inl e
  · rcases e11 14 (by omega) with e | e
    · rw [e]; exact h4
    · exact Or.inl e
  · rw [s1 37 (by omega)]; exact h5
  · rw [s1 38 (by omega)]; exact h6
  · rcases s2 with ⟨a1, a2, a3, a4⟩ | ⟨a1, a2, a3, a4, a5⟩
    · rw [a1] at e
      rcases hr6 with x | x <;> exact absurd (x.symm.trans e) (by decide)
    · exact ⟨a2, a3, a4, a5 11 (by omega), a5 19 (by omega)⟩
  · rw [s1 (59 + k) (by
      have := hW'.b
      have := ncl this.1
      omega)]
    rcases e11 11 (by omega) with e | e
    · rw [e] at hk; exact h8 k hk
    · rw [e] at hk; exact absurd hk (Nat.not_lt_zero k)
theorem zSg_e {r r' : Nat → Int32} (s : zSg r r') : (r' 19 = 0 ∧ r' 14 = 0) ∨ zTe r r' := by
  obtain ⟨s1, s2⟩ := s
  rcases s2 with ⟨a1, a2, a3, a4⟩ | ⟨a1, a2, a3, a4, a5⟩
  · refine Or.inr ⟨a4 19 (by omega), fun j hj => s1 _ (by omega), s1 5 (by omega), s1 1 (by omega), fun e => ?_⟩
    rw [a4 14 (by omega)] at e
    exact e
  · exact Or.inl ⟨a5 19 (by omega), a5 14 (by omega)⟩
/-- what a print does -/
theorem rPrinted_out (r : Nat → Int32) {q : Nat} (hq : q ≤ 1) (pos : Int32) {k : Nat} (h : ¬ (k = 21 + q ∨ k = 31 + q ∨ k = 33 + q ∨ k = 35 + q ∨ k = 37 + q)) : rPrinted r q pos k = r k := by
  unfold rPrinted
  have a1 : rPc (rTurned r q (pClamp (rOff r q) (r 2))) q (rOff r q) k = r k := by
    unfold rPc rTurned
    rw [zu_ne (by omega), zu_ne (by omega), zu_ne (by omega)]
  have a2 : rP2 (rPc (rTurned r q (pClamp (rOff r q) (r 2))) q (rOff r q)) q (pAbs (rOff r q)) k = r k := by
    unfold rP2
    split
    · exact a1
    · rw [zu_ne (by omega)]; exact a1
  generalize rP2 (rPc (rTurned r q (pClamp (rOff r q) (r 2))) q (rOff r q)) q (pAbs (rOff r q)) = r2 at a2 ⊢
  unfold rP3
  split
  · exact a2
  · rw [zu_ne (by omega)]; exact a2
theorem rPrinted_37 (r : Nat → Int32) {q : Nat} (hq : q ≤ 1) (pos : Int32) : rPrinted r q pos (37 + q) = r (37 + q) + rOff r q := by
  unfold rPrinted
  have a1 : rPc (rTurned r q (pClamp (rOff r q) (r 2))) q (rOff r q) (37 + q) = r (37 + q) + rOff r q := by
    unfold rPc rTurned
    rw [zu_self, zu_ne (by omega)]
  have a2 : rP2 (rPc (rTurned r q (pClamp (rOff r q) (r 2))) q (rOff r q)) q (pAbs (rOff r q)) (37 + q) = r (37 + q) + rOff r q := by
    unfold rP2
    split
    · exact a1
    · rw [zu_ne (by omega)]; exact a1
  generalize rP2 (rPc (rTurned r q (pClamp (rOff r q) (r 2))) q (rOff r q)) q (pAbs (rOff r q)) = r2 at a2 ⊢
  unfold rP3
  split
  · exact a2
  · rw [zu_ne (by omega)]; exact a2
theorem zfig_b : ∀ k, k < 26 → 0 ≤ ((zSbyt.getD 13 []).getD k 0).toInt ∧ ((zSbyt.getD 13 []).getD k 0).toInt < 128 := by decide +kernel
theorem zchr_b {p : Int32} (h0 : 2 ≤ p.toInt) (h1 : p.toInt < 28) (f : Bool) : 0 ≤ (zchr p f).toInt ∧ (zchr p f).toInt < 128 := by
  have e2 : (p - 2).toInt = p.toInt - 2 := nsub (b := 2) (by show _ ≤ p.toInt - 2; omega) (by show p.toInt - 2 < _; omega)
  unfold zchr
  cases f
  · have e3 : ((97 : Int32) + p).toInt = 97 + p.toInt := ixp (b := 97) rfl (by decide) (by omega) (by omega)
    have e4 : ((97 : Int32) + p - 2).toInt = 97 + p.toInt - 2 := by rw [nsub (b := 2) (by rw [e3]; show _ ≤ 97 + p.toInt - 2; omega) (by rw [e3]; show 97 + p.toInt - 2 < _; omega), e3]; rfl
    show 0 ≤ ((97 : Int32) + p - 2).toInt ∧ ((97 : Int32) + p - 2).toInt < 128
    omega
  · exact zfig_b _ (by rw [ncln]; omega)
theorem rMeans_A {r : Nat → Int32} {q : Nat} (hq : q ≤ 1) (hW : zW r) (p : Int32) (h14 : r 14 = 1) : ∃ s : Nat → Int32, ∃ w : Int32, (w = 1 ∨ w = 2) ∧ rMeans r q p = rClears (rSends s w 0) ∧ ∀ k, ¬ (k = 18 ∨ k = 29 ∨ k = 30 ∨ (99 ≤ k ∧ k < 219) ∨ (963 ≤ k ∧ k < 2963)) → s k = r k := by
  have hm := hW.mq (q := q) (by omega)
  unfold rMeans
  rw [if_pos h14]
  unfold rChecks
  split
  · have hb2 : ∀ x, 0 ≤ (rNotes r 1 x (29 + q)).toInt ∧ (rNotes r 1 x (29 + q)).toInt ≤ 1000 := fun x => by rw [rNotes_out r hW.e.1 hW.e.2 (by omega) (by omega)]; exact hm
    have hb3 := rRecvs_b (rNotes r 1 (r 11)) q (hb2 _).1 (hb2 _).2 (r 11).toNatClampNeg
    refine ⟨_, 1, Or.inl rfl, rfl, fun k hk => ?_⟩
    rw [rReceives_out _ q _ hb3.1 hb3.2 (by omega) (by omega), rRecvs_out _ q (hb2 _).1 (hb2 _).2 (by omega) (by omega), rNotes_out r hW.e.1 hW.e.2 (by omega) (by omega)]
  · refine ⟨_, 2, Or.inr rfl, rfl, fun k hk => ?_⟩
    rw [rNotes_out r hW.e.1 hW.e.2 (by omega) (by omega)]
theorem rMeans_B {r : Nat → Int32} {q : Nat} (hW : zW r) {p : Int32} (hp : 0 ≤ p.toInt ∧ p.toInt < 28) (h14 : ¬ r 14 = 1) (h13 : r 13 = 0 ∨ r 13 = 1) (h14' : r 14 = 0 ∨ r 14 = 1) (hb : hBuf r) : (∀ k, ¬ ((11 ≤ k ∧ k ≤ 14) ∨ (59 ≤ k ∧ k < 99)) → rMeans r q p k = r k) ∧ (rMeans r q p 12 = r 12 ∨ rMeans r q p 12 = r 12 + 1) ∧ (rMeans r q p 13 = 0 ∨ rMeans r q p 13 = 1) ∧ (rMeans r q p 14 = 0 ∨ rMeans r q p 14 = 1) ∧ hBuf (rMeans r q p) := by
  have h11 := hW.b
  have hc := ncl h11.1
  unfold rMeans
  rw [if_neg h14]
  split
  · refine ⟨fun k hk => zu_ne (by omega), Or.inl (zu_ne (by decide)), ?_, Or.inr (zu_self _ _ _), fun k hk => ?_⟩
    · rw [zu_ne (by decide)]; exact h13
    · rw [zu_ne (show 11 ≠ 14 by decide)] at hk
      rw [zu_ne (by omega)]; exact hb k hk
  · rename_i hns
    unfold rTake
    split
    · rename_i h2
      have hp2 : 2 ≤ p.toInt := by rw [nle] at h2; exact h2
      split
      · unfold rCount
        refine ⟨fun k hk => zu_ne (by omega), Or.inr (zu_self _ _ _), ?_, ?_, fun k hk => ?_⟩
        · rw [zu_ne (by decide)]; exact h13
        · rw [zu_ne (by decide)]; exact h14'
        · rw [zu_ne (show 11 ≠ 12 by decide)] at hk
          rw [zu_ne (by omega)]; exact hb k hk
      · rename_i h40
        have h39 : (r 11).toInt ≤ 39 := by
          rw [nle] at h40
          have : (40 : Int32).toInt = 40 := rfl
          omega
        have e1 : (r 11 + 1).toInt = (r 11).toInt + 1 := ixs (k := 1) rfl (by decide) (by omega) (by omega)
        have c1 : (r 11 + 1).toNatClampNeg = (r 11).toNatClampNeg + 1 := by rw [ncln, e1]; omega
        unfold rCount rLetter
        refine ⟨fun k hk => ?_, Or.inr ?_, ?_, ?_, fun k hk => ?_⟩
        · rw [zu_ne (by omega), zu_ne (by omega), zu_ne (by omega)]
        · rw [zu_self, zu_ne (show 12 ≠ 11 by decide), zu_ne (by omega)]
        · rw [zu_ne (by decide), zu_ne (by decide), zu_ne (by omega)]; exact h13
        · rw [zu_ne (by decide), zu_ne (by decide), zu_ne (by omega)]; exact h14'
        · rw [zu_ne (show 11 ≠ 12 by decide), zu_self, c1] at hk
          rw [zu_ne (by omega), zu_ne (by omega)]
          by_cases e : k = (r 11).toNatClampNeg
          · subst e; rw [zu_self]; exact zchr_b hp2 hp.2 _
          · rw [zu_ne (by omega)]; exact hb k (by omega)
    · rename_i h2
      have hp2 : ¬ 2 ≤ p.toInt := by rw [nle] at h2; exact h2
      unfold rCount
      refine ⟨fun k hk => ?_, Or.inr ?_, ?_, ?_, fun k hk => ?_⟩
      · rw [zu_ne (by omega), zu_ne (by omega)]
      · rw [zu_self, zu_ne (by decide)]
      · rw [zu_ne (by decide), zu_self]
        rcases (show p.toInt = 0 ∨ p.toInt = 1 by omega) with e | e
        · exact Or.inl (by rw [neq, e]; rfl)
        · exact Or.inr (by rw [neq, e]; rfl)
      · rw [zu_ne (by decide), zu_ne (by decide)]; exact h14'
      · rw [zu_ne (show 11 ≠ 12 by decide), zu_ne (show 11 ≠ 13 by decide)] at hk
        rw [zu_ne (by omega), zu_ne (by omega)]; exact hb k hk
theorem rOff_b {r : Nat → Int32} {q : Nat} (hN : 6 ≤ (r 0).toInt ∧ (r 0).toInt ≤ 28) (hP : 0 ≤ (r (21 + q)).toInt ∧ (r (21 + q)).toInt < 28000) : -500 ≤ (rOff r q).toInt ∧ (rOff r q).toInt ≤ 500 := by
  obtain ⟨e1, e2, e3⟩ := rPos_lt (q := q) hN hP
  have t1 : (1000 : Int32).toInt = 1000 := rfl
  have eN : (1000 * rNear r q).toInt = 1000 * (rNear r q).toInt := by rw [nmul (by rw [t1]; omega) (by rw [t1]; omega), t1]
  unfold rOff
  rw [nsub (by rw [eN]; omega) (by rw [eN]; omega), eN]
  omega
theorem zW.ph {r : Nat → Int32} (h : zW r) {q : Nat} (hq : q ≤ 1) : 0 ≤ (r (21 + q)).toInt ∧ (r (21 + q)).toInt < 28000 := by
  have hN := h.N
  have h0 := h.p0
  have h1 := h.p1
  rcases (show q = 0 ∨ q = 1 by omega) with rfl | rfl
  · exact ⟨h0.1, show (r 21).toInt < 28000 by omega⟩
  · exact ⟨h1.1, show (r 22).toInt < 28000 by omega⟩
theorem zx_prints {r : Nat → Int32} {q : Nat} (hq : q ≤ 1) (hW : zW r) (h19 : (r 19).toInt ≤ 599) {cm : Int} (h0 : 0 ≤ cm) (h200 : cm ≤ 200000) (hx : zx r cm) (h6 : ¬ r 6 = -1) (pos : Int32) {lo pc hp ha : Int} (hT : zTr r lo pc hp ha) (hlo : lo ≤ (r 5).toInt + (r 1).toInt) (hha : ha + 1 = (r 5).toInt + (r 1).toInt) : zx (rPrints r q pos) (cm + 1) ∧ zTr (rPrints r q pos) lo pc hp (ha + 1) ∧ zBr (rPrints r q pos) = zBr r ∧ rPrints r q pos 5 = r 5 ∧ rPrints r q pos 1 = r 1 ∧ ∀ k, k < nU (rPrints r q pos) → (k < nU r ∧ aE (rPrints r q pos) k = aE r k) ∨ aE (rPrints r q pos) k = (r 5).toInt + (r 1).toInt := by
  have hWr := zW_prints hW (q := q) (by omega) h19 pos
  have hkp := zkp_prints (r := r) (fun _ _ => rfl) (q := q) (by omega) hW pos
  obtain ⟨x1, x2, x3, x4, x5, x6, x7, x8, x9⟩ := hx
  have hob := rOff_b hW.N (hW.ph hq)
  have hd := hW.d
  have hT5 := hW.T
  have hu := hW.u
  have hcu := ncl hu.1
  have e51 : (r 5 + r 1).toInt = (r 5).toInt + (r 1).toInt := nadd (by omega) (by omega)
  have hS : ∀ k, ¬ (k = 15 ∨ k = 21 + q ∨ k = 31 + q ∨ k = 33 + q ∨ k = 35 + q ∨ k = 37 + q) → zu (rPrinted r q pos) 15 (rPrinted r q pos 5) k = r k := fun k hk => by
    rw [zu_ne (by omega)]; exact rPrinted_out r hq pos (by omega)
  have hS37 : zu (rPrinted r q pos) 15 (rPrinted r q pos 5) (37 + q) = r (37 + q) + rOff r q := by rw [zu_ne (by omega)]; exact rPrinted_37 r hq pos
  have hWS : zW (zu (rPrinted r q pos) 15 (rPrinted r q pos 5)) := zW_out (zW_printed hW (q := q) (by omega) pos).1 (nk (by omega)) _
  have hpp : 0 ≤ (rPos r q).toInt ∧ (rPos r q).toInt < 28 := by
    obtain ⟨e1, e2, e3⟩ := rPos_lt (q := q) hW.N (hW.ph hq)
    have hN := hW.N
    have m1 := Int.emod_nonneg (((r (21 + q)).toInt + 500) / 1000) (show (r 0).toInt ≠ 0 by omega)
    have m2 := Int.emod_lt_of_pos (((r (21 + q)).toInt + 500) / 1000) (show 0 < (r 0).toInt by omega)
    omega
  have s37 : ∀ k, k = 37 ∨ k = 38 → -500 * (cm + 1) ≤ (zu (rPrinted r q pos) 15 (rPrinted r q pos 5) k).toInt ∧ (zu (rPrinted r q pos) 15 (rPrinted r q pos 5) k).toInt ≤ 500 * (cm + 1) := by
    intro k hk
    have hr : -500 * cm ≤ (r k).toInt ∧ (r k).toInt ≤ 500 * cm := by
      rcases hk with rfl | rfl
      · exact x5
      · exact x6
    by_cases e : k = 37 + q
    · subst e
      rw [hS37, nadd (by omega) (by omega)]
      omega
    · rw [hS k (by omega)]
      omega
  unfold rPrints at hWr hkp ⊢
  generalize zu (rPrinted r q pos) 15 (rPrinted r q pos 5) = S at hS hWS s37 hWr hkp ⊢
  have e6 : S 6 = r 6 := hS 6 (by omega)
  have key : ∀ M : Nat → Int32, (∀ k, k ≤ 10 ∨ k = 27 ∨ k = 28 → M k = r k) → zkp r M → zact M → 0 ≤ (M 9).toInt ∧ (M 9).toInt < (rPath M (zLn M)).length := by
    intro M hM hk ha
    have ha' : zact r := ⟨by rw [← hM 6 (by omega)]; exact ha.1, by rw [← hM 7 (by omega)]; exact ha.2⟩
    have hz : zo M = zo r := by unfold zo; rw [hM 6 (by omega)]
    have hzl := zo_le (hW.h6 h6)
    have hL : zLn M = zLn r := by
      unfold zLn
      rw [hz, hM (27 + zo r) (by omega)]
    rw [hL, hk.path (zLn_lt hW h6) (hW.len _ (zLn_lt hW h6)).2, hM 9 (by omega)]
    exact x1 ha'
  by_cases h14 : S 14 = 1
  · obtain ⟨s, w, hw, eM, hs⟩ := rMeans_A hq hWS (rPos r q) h14
    have hsr : ∀ k, ¬ (k = 15 ∨ k = 18 ∨ (21 ≤ k ∧ k ≤ 22) ∨ (29 ≤ k ∧ k ≤ 38) ∨ (99 ≤ k ∧ k < 219) ∨ (963 ≤ k ∧ k < 2963)) → s k = r k := fun k hk => (hs k (by omega)).trans (hS k (by omega))
    have h14r : r 14 = 1 := by rw [← hS 14 (by omega)]; exact h14
    have ze : zTe r s := ⟨hsr 19 (by omega), fun j hj => hsr _ (by omega), hsr 5 (by omega), hsr 1 (by omega), fun _ => h14r⟩
    have e19 : s 19 = r 19 := hsr 19 (by omega)
    have hMk : ∀ k, ¬ ((11 ≤ k ∧ k ≤ 15) ∨ k = 18 ∨ k = 19 ∨ (21 ≤ k ∧ k ≤ 22) ∨ (29 ≤ k ∧ k ≤ 38) ∨ (99 ≤ k ∧ k < 219) ∨ 963 ≤ k) → rMeans S q (rPos r q) k = r k := fun k hk => by
      rw [eM, rClears_out _ (by omega), rSends_out _ (by omega) (by omega)]
      exact hsr k (by omega)
    have hM37 : ∀ k, k = 37 ∨ k = 38 → rMeans S q (rPos r q) k = S k := fun k hk => by
      rw [eM, rClears_out _ (by omega), rSends_out _ (by omega) (by omega)]
      exact hs k (by omega)
    have hMz : ∀ k, 11 ≤ k ∧ k ≤ 14 → rMeans S q (rPos r q) k = 0 := fun k hk => by
      rw [eM]
      rcases (show k = 11 ∨ k = 12 ∨ k = 13 ∨ k = 14 by omega) with rfl | rfl | rfl | rfl <;> simp only [rClears, zu_ap, Nat.reduceEqDiff, if_true, if_false]
    have z0 : (0 : Int32).toInt = 0 := rfl
    have hn1 : nU (rMeans S q (rPos r q)) = nU s + 1 := by
      rw [eM]
      show (rClears (rSends s w 0) 19).toNatClampNeg = _
      rw [rClears_out _ (by omega)]
      exact rSends_n (by rw [e19]; exact hu.1) (by rw [e19]; exact h19) w 0
    obtain ⟨t1, t2, t3⟩ := rSends_at (r := s) w 0
    have hat : ∀ k, aE (rMeans S q (rPos r q)) k = aE (rSends s w 0) k ∧ wE (rMeans S q (rPos r q)) k = wE (rSends s w 0) k := fun k => by
      rw [eM]
      unfold aE wE
      rw [rClears_out _ (by omega), rClears_out _ (by omega)]
      exact ⟨rfl, rfl⟩
    have hTs : zTr s lo pc hp ha := ze.T (by show (r 19).toNatClampNeg ≤ 600; omega) hT
    refine ⟨⟨fun a => key _ (fun k hk => hMk k (by omega)) hkp a, ?_, Or.inl (hMz 13 (by omega)), Or.inl (hMz 14 (by omega)), by rw [hM37 37 (by omega)]; exact s37 37 (by omega), by rw [hM37 38 (by omega)]; exact s37 38 (by omega), fun e => ?_, fun k hk => ?_, x9.c hkp hW⟩, ?_, ?_, hMk 5 (by omega), hMk 1 (by omega), fun k hk => ?_⟩
    · rw [hMz 12 (by omega), z0]; exact ⟨by omega, by omega⟩
    · rw [hMk 6 (by omega)] at e
      exact absurd e h6
    · rw [hMz 11 (by omega)] at hk
      exact absurd hk (Nat.not_lt_zero k)
    · have e5 : rMeans S q (rPos r q) 5 = r 5 := hMk 5 (by omega)
      have e1 : rMeans S q (rPos r q) 1 = r 1 := hMk 1 (by omega)
      unfold zTr at hTs ⊢
      rw [hn1, e5, e1]
      rw [hsr 5 (by omega), hsr 1 (by omega)] at hTs
      refine zTv_push hTs (fun k hk => (hat k).1.trans (t1 k hk).1) (fun k hk => (hat k).2.trans (t1 k hk).2) ?_ hlo (Int.le_refl _) (by omega) (fun e => ?_) (Or.inr (Or.inl ⟨?_, ?_, ?_, hha, by omega⟩))
      · rw [(hat _).1, t2, hsr 5 (by omega), hsr 1 (by omega)]; exact e51
      · rw [hMz 14 (by omega)] at e; exact absurd e (by decide)
      · rw [(hat _).2, t3]; exact hw
      · rw [hsr 14 (by omega)]; exact h14r
      · rw [hMz 14 (by omega)]; decide
    · have hb1 := zBr_sends (r := s) (by rw [e19]; exact hu.1) (by rw [e19]; exact h19) w 0
      have hw3 : ¬ w = 3 := by
        rcases hw with rfl | rfl <;> decide
      rw [if_neg hw3, ze.B (by show (r 19).toNatClampNeg ≤ 600; omega)] at hb1
      have : zBr (rMeans S q (rPos r q)) = zBr (rSends s w 0) := by
        unfold zBr
        rw [hn1, rSends_n (by rw [e19]; exact hu.1) (by rw [e19]; exact h19) w 0]
        exact zcnt_cong _ (fun k hk => by rw [(hat k).2])
      rw [this, hb1]
      rfl
    · rw [hn1] at hk
      rw [(hat k).1]
      by_cases hks : k < nU s
      · left
        rw [(t1 k hks).1]
        rw [ze.nn] at hks
        have hcu2 : nU r ≤ 600 := by show (r 19).toNatClampNeg ≤ 600; omega
        exact ⟨hks, (ze.el (by omega)).1⟩
      · right
        have : k = nU s := by omega
        subst this
        rw [t2, hsr 5 (by omega), hsr 1 (by omega)]; exact e51
  · obtain ⟨m1, m2, m3, m4, m5⟩ := rMeans_B (q := q) hWS hpp h14 (by rw [hS 13 (by omega)]; exact x3) (by rw [hS 14 (by omega)]; exact x4) (fun k hk => by
      rw [hS 11 (by omega)] at hk
      have := hW.b
      have := ncl this.1
      rw [hS (59 + k) (by omega)]; exact x8 k hk)
    have ze : zTe r (rMeans S q (rPos r q)) ∨ True := Or.inr trivial
    have hMk : ∀ k, ¬ ((11 ≤ k ∧ k ≤ 15) ∨ (21 ≤ k ∧ k ≤ 22) ∨ (31 ≤ k ∧ k ≤ 38) ∨ (59 ≤ k ∧ k < 99)) → rMeans S q (rPos r q) k = r k := fun k hk => (m1 k (by omega)).trans (hS k (by omega))
    have hn1 : nU (rMeans S q (rPos r q)) = nU r := by
      show (rMeans S q (rPos r q) 19).toNatClampNeg = _
      rw [hMk 19 (by omega)]
      rfl
    have hat : ∀ k, aE (rMeans S q (rPos r q)) k = aE r k ∧ wE (rMeans S q (rPos r q)) k = wE r k := fun k => by
      unfold aE wE
      rw [hMk _ (by omega), hMk _ (by omega)]
      exact ⟨rfl, rfl⟩
    have h12 : rMeans S q (rPos r q) 12 = r 12 ∨ rMeans S q (rPos r q) 12 = r 12 + 1 := by rw [hS 12 (by omega)] at m2; exact m2
    have h121 : (r 12 + 1).toInt = (r 12).toInt + 1 := ixs (k := 1) rfl (by decide) (by omega) (by omega)
    refine ⟨⟨fun a => key _ (fun k hk => hMk k (by omega)) hkp a, ?_, m3, m4, by rw [m1 37 (by omega)]; exact s37 37 (by omega), by rw [m1 38 (by omega)]; exact s37 38 (by omega), fun e => ?_, m5, x9.c hkp hW⟩, ?_, ?_, hMk 5 (by omega), hMk 1 (by omega), fun k hk => ?_⟩
    · rcases h12 with e | e
      · rw [e]; omega
      · rw [e, h121]; omega
    · rw [hMk 6 (by omega)] at e
      exact absurd e h6
    · have hT2 := hT
      obtain ⟨a1, a2, a3, a4, a5, a6, a7⟩ := hT2
      have hT3 : zTv (nU r) (aE r) (wE r) ((r 5).toInt + (r 1).toInt) lo pc hp (ha + 1) (rMeans S q (rPos r q) 14 = 1) := ⟨a1, a2, a3, a4, a5, fun k hk e => ⟨by have := (a6 k hk e).1; omega, fun _ => by have := (a6 k hk e).1; omega⟩, a7⟩
      exact zTv_cong hT3 hn1 (fun k hk => (hat k).1) (fun k hk => (hat k).2) (by rw [hMk 5 (by omega), hMk 1 (by omega)]) id
    · unfold zBr
      rw [hn1]
      exact zcnt_cong _ (fun k hk => by rw [(hat k).2])
    · rw [hn1] at hk
      exact Or.inl ⟨hk, (hat k).1⟩
