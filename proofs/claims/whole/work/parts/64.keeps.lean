/-! what the steps keep: the plan's part of the row -/
def zsk (k : Nat) : Prop := k ≤ 4 ∧ k ≠ 2 ∨ k = 25 ∨ k = 26 ∨ (219 ≤ k ∧ k < 963)
theorem zkp_zu {r r' : Nat → Int32} (h : zkp r r') {k : Nat} (hk : ¬ zsk k) (v : Int32) : zkp r (zu r' k v) := fun j hj => by
  have hne : j ≠ k := fun e => by
    subst e
    exact hk hj
  rw [zu_ne hne]
  exact h j hj
theorem nsk {k : Nat} (h : k = 2 ∨ (5 ≤ k ∧ k ≤ 24) ∨ (27 ≤ k ∧ k < 219) ∨ 963 ≤ k) : ¬ zsk k := by unfold zsk; omega
theorem zkp_clears {r r' : Nat → Int32} (h : zkp r r') : zkp r (rClears r') := zkp_zu (zkp_zu (zkp_zu (zkp_zu h (nsk (by omega)) _) (nsk (by omega)) _) (nsk (by omega)) _) (nsk (by omega)) _
theorem zkp_ends {r r' : Nat → Int32} (h : zkp r r') : zkp r (rEnds r') := zkp_clears (zkp_zu (zkp_zu (zkp_zu (zkp_zu (zkp_zu h (nsk (by omega)) _) (nsk (by omega)) _) (nsk (by omega)) _) (nsk (by omega)) _) (nsk (by omega)) _)
theorem zkp_begins {r r' : Nat → Int32} (h : zkp r r') : zkp r (rBegins r') := zkp_zu (zkp_zu h (nsk (by omega)) _) (nsk (by omega)) _
theorem zkp_notes {r r' : Nat → Int32} (h : zkp r r') (hb : 0 ≤ (r' 18).toInt ∧ (r' 18).toInt ≤ 40) {x y : Int32} : zkp r (rNotes r' x y) := fun j hj => (rNotes_out r' hb.1 hb.2 (by omega) (by omega)).trans (h j hj)
theorem zkp_sends {r r' : Nat → Int32} (h : zkp r r') {x y : Int32} : zkp r (rSends r' x y) := fun j hj => (rPut_out r' (by omega) (by omega)).trans (h j hj)
theorem zkp_done {r r' : Nat → Int32} (h : zkp r r') {q : Nat} (hq : q ≤ 1) : zkp r (rDone r' q) := zkp_zu (zkp_zu h (nsk (by omega)) _) (nsk (by omega)) _
theorem zkp_lineDone {r r' : Nat → Int32} (h : zkp r r') (h6 : r' 6 = 0 ∨ r' 6 = 1) (hb : 0 ≤ (r' 18).toInt ∧ (r' 18).toInt ≤ 40) : zkp r (rLineDone r') := by
  have hq : zo r' ≤ 1 := by
    unfold zo
    rcases h6 with e | e <;> rw [e] <;> decide
  unfold rLineDone
  split
  · refine zkp_notes (zkp_ends (zkp_done h hq)) ?_
    unfold rEnds rClears rDone
    rw [zu_ne (by decide), zu_ne (by decide), zu_ne (by decide), zu_ne (by decide), zu_ne (by decide), zu_ne (by decide), zu_ne (by decide), zu_ne (by decide), zu_ne (by decide), zu_ne (by decide), zu_ne (by omega)]
    exact hb
  · exact zkp_begins (zkp_done h hq)
theorem zkp_lineFailed {r r' : Nat → Int32} (h : zkp r r') (h6 : r' 6 = 0 ∨ r' 6 = 1) (hb : 0 ≤ (r' 18).toInt ∧ (r' 18).toInt ≤ 40) : zkp r (rLineFailed r') := by
  unfold rLineFailed
  split
  · exact zkp_lineDone (zkp_notes h hb) (by rw [rNotes_out r' hb.1 hb.2 (by decide) (by decide)]; exact h6) (rNotes_18 r' _ _ hb.1 hb.2)
  · refine zkp_notes (zkp_begins (zkp_zu h (nsk (by omega)) _)) ?_
    unfold rBegins
    rw [zu_ne (by decide), zu_ne (by decide), zu_ne (by decide)]
    exact hb
theorem zkp_answers {r r' : Nat → Int32} (h : zkp r r') (h6 : r' 6 = 0 ∨ r' 6 = 1) (hb : 0 ≤ (r' 18).toInt ∧ (r' 18).toInt ≤ 40) (b : Bool) : zkp r (rAnswers r' b) := by
  unfold rAnswers
  split
  · exact h
  · split
    · exact zkp_lineDone h h6 hb
    · exact zkp_lineFailed h h6 hb
theorem zkp_breaks {r r' : Nat → Int32} (h : zkp r r') (hb : 0 ≤ (r' 18).toInt ∧ (r' 18).toInt ≤ 40) : zkp r (rBreaks r') := by
  refine zkp_notes (zkp_ends h) ?_
  unfold rEnds rClears
  rw [zu_ne (by decide), zu_ne (by decide), zu_ne (by decide), zu_ne (by decide), zu_ne (by decide), zu_ne (by decide), zu_ne (by decide), zu_ne (by decide), zu_ne (by decide)]
  exact hb
theorem zkp_receives {r r' : Nat → Int32} (h : zkp r r') {q : Nat} (hq : q ≤ 1) (c : Int32) : zkp r (rReceives r' q c) := by
  unfold rReceives
  split
  · exact h
  · exact zkp_zu (zkp_zu h (nsk (by omega)) _) (nsk (by omega)) _
theorem zkp_recvs {r r' : Nat → Int32} (h : zkp r r') {q : Nat} (hq : q ≤ 1) : ∀ k, zkp r (rRecvs r' q k)
  | 0 => h
  | k + 1 => zkp_receives (zkp_recvs h hq k) hq _
theorem zkp_checks {r r' : Nat → Int32} (h : zkp r r') {q : Nat} (hq : q ≤ 1) (hb : 0 ≤ (r' 18).toInt ∧ (r' 18).toInt ≤ 40) (p : Int32) : zkp r (rChecks r' q p) := by
  unfold rChecks
  split
  · exact zkp_clears (zkp_sends (zkp_receives (zkp_recvs (zkp_notes h hb) hq _) hq _))
  · exact zkp_clears (zkp_sends (zkp_notes h hb))
theorem zkp_means {r r' : Nat → Int32} (h : zkp r r') {q : Nat} (hq : q ≤ 1) (hW : zW r') (p : Int32) : zkp r (rMeans r' q p) := by
  obtain ⟨nb, -⟩ := hW.bn
  unfold rMeans
  split
  · exact zkp_checks h hq hW.e p
  · split
    · exact zkp_zu h (nsk (by omega)) _
    · unfold rTake rCount rLetter
      split
      · split
        · exact zkp_zu h (nsk (by omega)) _
        · exact zkp_zu (zkp_zu (zkp_zu h (nsk (by omega)) _) (nsk (by omega)) _) (nsk (by omega)) _
      · exact zkp_zu (zkp_zu h (nsk (by omega)) _) (nsk (by omega)) _
theorem zkp_printed {r r' : Nat → Int32} (h : zkp r r') {q : Nat} (hq : q ≤ 1) (pos : Int32) : zkp r (rPrinted r' q pos) := by
  have h1 : zkp r (rPc (rTurned r' q (pClamp (rOff r' q) (r' 2))) q (rOff r' q)) := zkp_zu (zkp_zu (zkp_zu h (nsk (by omega)) _) (nsk (by omega)) _) (nsk (by omega)) _
  unfold rPrinted
  generalize rPc (rTurned r' q (pClamp (rOff r' q) (r' 2))) q (rOff r' q) = r1 at h1 ⊢
  have h2 : zkp r (rP2 r1 q (pAbs (rOff r' q))) := by
    unfold rP2
    split
    · exact h1
    · exact zkp_zu h1 (nsk (by omega)) _
  generalize rP2 r1 q (pAbs (rOff r' q)) = r2 at h2 ⊢
  unfold rP3
  split
  · exact h2
  · exact zkp_zu h2 (nsk (by omega)) _
theorem zkp_prints {r r' : Nat → Int32} (h : zkp r r') {q : Nat} (hq : q = 0 ∨ q = 1) (hW : zW r') (pos : Int32) : zkp r (rPrints r' q pos) :=
  zkp_means (zkp_zu (zkp_printed h (by omega) pos) (nsk (by omega)) _) (by omega) (zW_out (zW_printed hW hq pos).1 (nk (by omega)) _) _
theorem zkp_pop {r r' : Nat → Int32} (h : zkp r r') : zkp r (rPop r') := fun j hj => by
  unfold rPop
  rw [zcut_out _ (by omega), zu_ne (by omega)]
  exact h j hj
theorem zkp_entry {r r' : Nat → Int32} (h : zkp r r') (hW : zW r') (h6 : r' 6 = 0 ∨ r' 6 = 1) (w v : Int32) : zkp r (rEntry r' w v) := by
  obtain ⟨q, hq, e, ho⟩ := zW.ho h6
  unfold rEntry zq
  rw [← e]
  split
  · exact zkp_prints h hq hW v
  · split
    · exact zkp_answers h h6 hW.e true
    · split
      · exact zkp_answers h h6 hW.e false
      · exact zkp_breaks h hW.e
theorem zkp_tick0 {r : Nat → Int32} : zkp r (rTick0 r) := zkp_zu (zkp_zu (zkp_zu (fun _ _ => rfl) (nsk (by omega)) _) (nsk (by omega)) _) (nsk (by omega)) _
theorem zkp_looks {r r' : Nat → Int32} (h : zkp r r') : zkp r (rLooks r') := by
  unfold rLooks
  split
  · exact h
  · split
    · exact h
    · have h1 : zkp r (rCnt r') := zkp_zu h (nsk (by omega)) _
      have h2 : zkp r (rSnd (rCnt r') (rPosn r')) := by
        unfold rSnd
        split
        · exact zkp_zu h1 (nsk (by omega)) _
        · exact zkp_sends h1
      unfold rNext rEndL
      have h3 : zkp r (zu (rSnd (rCnt r') (rPosn r')) 9 (rSnd (rCnt r') (rPosn r') 9 + 1)) := zkp_zu h2 (nsk (by omega)) _
      generalize zu (rSnd (rCnt r') (rPosn r')) 9 (rSnd (rCnt r') (rPosn r') 9 + 1) = r3 at h3 ⊢
      split
      · exact zkp_zu (zkp_zu h3 (nsk (by omega)) _) (nsk (by omega)) _
      · exact h3
theorem zkp_T1 {r r' : Nat → Int32} (h : zkp r r') (hW : zW r') : zkp r (rT1 r') := by
  unfold rT1
  split
  · exact h
  · split
    · split
      · exact h
      · exact zkp_lineFailed h (hW.h6 (by assumption)) hW.e
    · exact h
theorem zkp_T2 {r r' : Nat → Int32} (h : zkp r r') : zkp r (rT2 r') := by
  unfold rT2
  split
  · exact h
  · split
    · exact h
    · exact zkp_clears h
