/-! TWO ROWS that tick alike -/
def zRg (r r' : Nat → Int32) : Prop := ∀ k, k < 4763 → k ≠ 35 → k ≠ 36 → r' k = r k
def zRq (t r r' : Nat → Int32) : Prop := zRg r r' ∧ ∀ k, 33 ≤ k → k ≤ 36 → r' k = t k
section ZALIKE
variable {t r r' : Nat → Int32}
theorem zRq.k (h : zRq t r r') (k : Nat) (hk : k < 4763 ∧ k ≠ 35 ∧ k ≠ 36) : r' k = r k := h.1 k hk.1 hk.2.1 hk.2.2
theorem zRq_zu (h : zRq t r r') {k : Nat} (hk : ¬ (33 ≤ k ∧ k ≤ 36)) (v : Int32) : zRq t (zu r k v) (zu r' k v) := by
  refine ⟨fun j h1 h2 h3 => ?_, fun j h1 h2 => ?_⟩
  · by_cases e : j = k
    · subst e; rw [zu_self, zu_self]
    · rw [zu_ne e, zu_ne e]; exact h.1 j h1 h2 h3
  · rw [zu_ne (by omega)]; exact h.2 j h1 h2
theorem zRq_clears (h : zRq t r r') : zRq t (rClears r) (rClears r') := zRq_zu (zRq_zu (zRq_zu (zRq_zu h (by omega) _) (by omega) _) (by omega) _) (by omega) _
theorem zRq_begins (h : zRq t r r') : zRq t (rBegins r) (rBegins r') := zRq_zu (zRq_zu h (by omega) _) (by omega) _
theorem zRq_ends (h : zRq t r r') : zRq t (rEnds r) (rEnds r') := zRq_clears (zRq_zu (zRq_zu (zRq_zu (zRq_zu (zRq_zu h (by omega) _) (by omega) _) (by omega) _) (by omega) _) (by omega) _)
theorem zRq_put (h : zRq t r r') {b cnt : Nat} (hc : b = 99 ∧ cnt = 18 ∨ b = 2963 ∧ cnt = 19) (x y z : Int32) : zRq t (rPut r b cnt x y z) (rPut r' b cnt x y z) := by
  have e : r' cnt = r cnt := h.k cnt (by omega)
  unfold rPut
  rw [e]
  exact zRq_zu (zRq_zu (zRq_zu (zRq_zu h (by omega) _) (by omega) _) (by omega) _) (by omega) _
theorem zRq_sends (h : zRq t r r') (w v : Int32) : zRq t (rSends r w v) (rSends r' w v) := by
  unfold rSends
  rw [h.k 5 (by omega), h.k 1 (by omega)]
  exact zRq_put h (Or.inr ⟨rfl, rfl⟩) _ _ _
theorem zRq_zcut (h : zRq t r r') {b i : Nat} (hb : 36 < b) (hi : b + i + 3 ≤ 4763) : zRq t (zcut r b i) (zcut r' b i) := by
  refine ⟨fun j h1 h2 h3 => ?_, fun j h1 h2 => ?_⟩
  · unfold zcut
    by_cases e : b ≤ j ∧ j < b + i
    · rw [if_pos e, if_pos e]; exact h.k (j + 3) (by omega)
    · rw [if_neg e, if_neg e]; exact h.k j (by omega)
  · unfold zcut
    rw [if_neg (by omega)]
    exact h.2 j h1 h2
theorem zRq_notes (h : zRq t r r') (x y : Int32) : zRq t (rNotes r x y) (rNotes r' x y) := by
  unfold rNotes
  rw [h.k 18 (by omega), h.k 5 (by omega)]
  by_cases e : r 18 = 40
  · rw [if_pos e, if_pos e]
    refine zRq_put ?_ (Or.inl ⟨rfl, rfl⟩) _ _ _
    unfold rCut
    rw [h.k 18 (by omega)]
    exact zRq_zu (zRq_zcut h (by omega) (by omega)) (by omega) _
  · rw [if_neg e, if_neg e]
    exact zRq_put h (Or.inl ⟨rfl, rfl⟩) _ _ _
theorem zo_W (hW : zW r) : zo r ≤ 1 := by
  unfold zo
  rcases hW.s with e | e | e <;> rw [e] <;> decide
theorem zRq_o (h : zRq t r r') : zo r' = zo r := by
  unfold zo
  rw [h.k 6 (by omega)]
theorem zRq_done (h : zRq t r r') {o : Nat} (ho : o ≤ 1) : zRq t (rDone r o) (rDone r' o) := by
  unfold rDone
  rw [h.k (27 + o) (by omega)]
  exact zRq_zu (zRq_zu h (by omega) _) (by omega) _
theorem zRq_lineDone (h : zRq t r r') (hW : zW r) : zRq t (rLineDone r) (rLineDone r') := by
  have hz := zo_W hW
  unfold rLineDone
  rw [zRq_o h, h.k (25 + zo r) (by omega), h.k (27 + zo r) (by omega), h.k 6 (by omega)]
  by_cases e : r (25 + zo r) ≤ r (27 + zo r) + 1
  · rw [if_pos e, if_pos e]; exact zRq_notes (zRq_ends (zRq_done h hz)) _ _
  · rw [if_neg e, if_neg e]; exact zRq_begins (zRq_done h hz)
theorem zRq_lineFailed (h : zRq t r r') (hW : zW r) : zRq t (rLineFailed r) (rLineFailed r') := by
  have hz := zo_W hW
  unfold rLineFailed
  rw [zRq_o h, h.k 4 (by omega), h.k 10 (by omega), h.k (27 + zo r) (by omega)]
  by_cases e : r 4 ≤ r 10
  · rw [if_pos e, if_pos e]; exact zRq_lineDone (zRq_notes h _ _) (zW_notes hW)
  · rw [if_neg e, if_neg e]
    refine zRq_notes ?_ _ _
    unfold rAgain
    rw [h.k 10 (by omega)]
    exact zRq_begins (zRq_zu h (by omega) _)
theorem zRq_breaks (h : zRq t r r') (hW : zW r) : zRq t (rBreaks r) (rBreaks r') := by
  have hz := zo_W hW
  unfold rBreaks
  rw [zRq_o h, h.k (27 + zo r) (by omega)]
  exact zRq_notes (zRq_ends h) _ _
theorem zRq_answers (h : zRq t r r') (hW : zW r) (b : Bool) : zRq t (rAnswers r b) (rAnswers r' b) := by
  unfold rAnswers
  rw [h.k 7 (by omega)]
  by_cases e : r 7 = 0
  · rw [if_pos e, if_pos e]; exact h
  · rw [if_neg e, if_neg e]
    by_cases hb : b = true
    · rw [if_pos hb, if_pos hb]; exact zRq_lineDone h hW
    · rw [if_neg hb, if_neg hb]; exact zRq_lineFailed h hW
theorem zRq_receives (h : zRq t r r') {o : Nat} (ho : o ≤ 1) (c : Int32) : zRq t (rReceives r o c) (rReceives r' o c) := by
  unfold rReceives
  rw [h.k (29 + o) (by omega)]
  by_cases e : r (29 + o) = 1000
  · rw [if_pos e, if_pos e]; exact h
  · rw [if_neg e, if_neg e]; exact zRq_zu (zRq_zu h (by omega) _) (by omega) _
theorem zRq_recvs (h : zRq t r r') {o : Nat} (ho : o ≤ 1) : ∀ k, k ≤ 40 → zRq t (rRecvs r o k) (rRecvs r' o k)
  | 0, _ => h
  | k + 1, hk => by
    rw [rRecvs, rRecvs, h.k (59 + k) (by omega)]
    exact zRq_receives (zRq_recvs h ho k (by omega)) ho _
theorem zRq_checks (h : zRq t r r') (hW : zW r) {q : Nat} (hq : q ≤ 1) (p : Int32) : zRq t (rChecks r q p) (rChecks r' q p) := by
  have hb := hW.b
  have hcb := ncl hb.1
  unfold rChecks
  rw [h.k 12 (by omega), h.k 0 (by omega), h.k 11 (by omega)]
  generalize hc : (2 + (r 12 - r 12 / (r 0 - 2) * (r 0 - 2))) = c0
  by_cases e : p = c0
  · rw [if_pos e, if_pos e]
    exact zRq_clears (zRq_sends (zRq_receives (zRq_recvs (zRq_notes h _ _) hq _ (by omega)) hq _) _ _)
  · rw [if_neg e, if_neg e]
    exact zRq_clears (zRq_sends (zRq_notes h _ _) _ _)
theorem zRq_count (h : zRq t r r') : zRq t (rCount r) (rCount r') := by
  unfold rCount
  rw [h.k 12 (by omega)]
  exact zRq_zu h (by omega) _
theorem zRq_letter (h : zRq t r r') (p : Int32) : zRq t (rLetter r p) (rLetter r' p) := by
  unfold rLetter
  rw [h.k 11 (by omega), h.k 13 (by omega)]
  exact zRq_zu (zRq_zu h (by omega) _) (by omega) _
theorem zRq_take (h : zRq t r r') (p : Int32) : zRq t (rTake r p) (rTake r' p) := by
  unfold rTake
  rw [h.k 11 (by omega)]
  by_cases e : 2 ≤ p
  · rw [if_pos e, if_pos e]
    by_cases e2 : 40 ≤ r 11
    · rw [if_pos e2, if_pos e2]; exact zRq_count h
    · rw [if_neg e2, if_neg e2]; exact zRq_count (zRq_letter h p)
  · rw [if_neg e, if_neg e]; exact zRq_count (zRq_zu h (by omega) _)
theorem zRq_means (h : zRq t r r') (hW : zW r) {q : Nat} (hq : q ≤ 1) (p : Int32) : zRq t (rMeans r q p) (rMeans r' q p) := by
  unfold rMeans
  rw [h.k 14 (by omega), h.k 13 (by omega)]
  by_cases e : r 14 = 1
  · rw [if_pos e, if_pos e]; exact zRq_checks h hW hq p
  · rw [if_neg e, if_neg e]
    by_cases e2 : ¬ 2 ≤ p ∧ p = r 13
    · rw [if_pos e2, if_pos e2]; exact zRq_zu h (by omega) _
    · rw [if_neg e2, if_neg e2]; exact zRq_take h p
theorem rP2_out (x : Nat → Int32) {q k : Nat} (a : Int32) (hk : k ≠ 35 + q) : rP2 x q a k = x k := by
  unfold rP2
  split
  · rfl
  · rw [zu_ne hk]
theorem zRq_P2 (h : zRq t r r') {q : Nat} (hq : q ≤ 1) (a : Int32) : zRq (rP2 t q a) (rP2 r q a) (rP2 r' q a) := by
  refine ⟨fun j h1 h2 h3 => ?_, fun j h1 h2 => ?_⟩
  · rw [rP2_out _ _ (by omega), rP2_out _ _ (by omega)]; exact h.1 j h1 h2 h3
  · unfold rP2
    rw [h.2 (35 + q) (by omega) (by omega)]
    by_cases e : a ≤ t (35 + q)
    · rw [if_pos e, if_pos e]; exact h.2 j h1 h2
    · rw [if_neg e, if_neg e]
      by_cases ej : j = 35 + q
      · subst ej; rw [zu_self, zu_self]
      · rw [zu_ne ej, zu_ne ej]; exact h.2 j h1 h2
theorem zRq_P3 (h : zRq t r r') {q : Nat} (hq : q ≤ 1) (pr pos : Int32) : zRq (rP3 t q pr pos) (rP3 r q pr pos) (rP3 r' q pr pos) := by
  unfold rP3
  by_cases e : pr = pos
  · rw [if_pos e, if_pos e, if_pos e]; exact h
  · rw [if_neg e, if_neg e, if_neg e]
    have e1 := h.k (33 + q) (by omega)
    have e2 := h.2 (33 + q) (by omega) (by omega)
    refine ⟨fun j h1 h2 h3 => ?_, fun j h1 h2 => ?_⟩
    · by_cases ej : j = 33 + q
      · subst ej; rw [zu_self, zu_self, e1]
      · rw [zu_ne ej, zu_ne ej]; exact h.1 j h1 h2 h3
    · by_cases ej : j = 33 + q
      · subst ej; rw [zu_self, zu_self, e2]
      · rw [zu_ne ej, zu_ne ej]; exact h.2 j h1 h2
theorem zRq_printed (h : zRq t r r') {q : Nat} (hq : q ≤ 1) (pos : Int32) : rOff r' q = rOff r q ∧ rPos r' q = rPos r q ∧ zRq (rP3 (rP2 t q (pAbs (rOff r q))) q (rPos r q) pos) (rPrinted r q pos) (rPrinted r' q pos) := by
  have eo : rOff r' q = rOff r q := by unfold rOff rNear; rw [h.k (21 + q) (by omega)]
  have ep : rPos r' q = rPos r q := by unfold rPos rNear; rw [h.k (21 + q) (by omega), h.k 0 (by omega)]
  refine ⟨eo, ep, ?_⟩
  unfold rPrinted
  rw [eo, ep, h.k 2 (by omega)]
  refine zRq_P3 (zRq_P2 ?_ hq _) hq _ _
  have h1 : zRq t (rTurned r q (pClamp (rOff r q) (r 2))) (rTurned r' q (pClamp (rOff r q) (r 2))) := by
    unfold rTurned
    rw [h.k (21 + q) (by omega), h.k 0 (by omega)]
    exact zRq_zu h (by omega) _
  unfold rPc
  rw [h1.k (31 + q) (by omega), h1.k (37 + q) (by omega)]
  exact zRq_zu (zRq_zu h1 (by omega) _) (by omega) _
theorem zRq_prints (h : zRq t r r') (hW : zW r) {q : Nat} (hq : q = 0 ∨ q = 1) (pos : Int32) : zRq (rP3 (rP2 t q (pAbs (rOff r q))) q (rPos r q) pos) (rPrints r q pos) (rPrints r' q pos) := by
  obtain ⟨_, e2, h3⟩ := zRq_printed h (q := q) (by omega) pos
  unfold rPrints
  rw [e2, h3.k 5 (by omega)]
  exact zRq_means (zRq_zu h3 (by omega) _) (zW_out (zW_printed hW hq pos).1 (nk (by omega)) _) (by omega) _
theorem zRq_pop (h : zRq t r r') (hW : zW r) : zRq t (rPop r) (rPop r') := by
  have hu := hW.u
  have hc : (r 19 - 1).toNatClampNeg ≤ 599 := by
    have e : (r 19 - 1).toInt = (r 19).toInt - 1 := nsub (by show -2147483648 ≤ (r 19).toInt - 1; omega) (by show (r 19).toInt - 1 < 2147483648; omega)
    rw [ncln, e]
    omega
  unfold rPop
  rw [h.k 19 (by omega)]
  exact zRq_zcut (zRq_zu h (by omega) _) (by omega) (by omega)
end ZALIKE
/-- the greater offset -/
def zmx (t : Nat → Int32) : Int32 := if t 35 < t 36 then t 36 else t 35
def zTk (t t' : Nat → Int32) (far far' : Int32) (m : Nat) : Prop := (far = zmx t → far' = zmx t') ∧ ∃ e : Nat, e ≤ m ∧ t' 33 + t' 34 = t 33 + t 34 + nI e
theorem zTk.rf {t : Nat → Int32} {far : Int32} {m : Nat} : zTk t t far far m := ⟨fun e => e, 0, Nat.zero_le _, (Int32.add_zero _).symm⟩
theorem nI_plus (a b : Nat) : nI a + nI b = nI (a + b) := by
  show Int32.ofNat a + Int32.ofNat b = Int32.ofNat (a + b)
  exact (Int32.ofNat_add a b).symm
theorem zTk.tr {t t' t'' : Nat → Int32} {f f' f'' : Int32} {m m' : Nat} (h : zTk t t' f f' m) (g : zTk t' t'' f' f'' m') : zTk t t'' f f'' (m + m') := by
  obtain ⟨h1, e, he, h2⟩ := h
  obtain ⟨g1, e', he', g2⟩ := g
  exact ⟨fun x => g1 (h1 x), e + e', by omega, by rw [g2, h2, Int32.add_assoc, nI_plus]⟩
theorem zTk.mono {t t' : Nat → Int32} {f f' : Int32} {m m' : Nat} (h : zTk t t' f f' m) (hm : m ≤ m') : zTk t t' f f' m' := ⟨h.1, h.2.elim fun e he => ⟨e, Nat.le_trans he.1 hm, he.2⟩⟩
theorem zmx_P3 (t : Nat → Int32) {q : Nat} (hq : q ≤ 1) (pr pos : Int32) : zmx (rP3 t q pr pos) = zmx t := by
  have e : ∀ k, 35 ≤ k → rP3 t q pr pos k = t k := fun k hk => by
    unfold rP3
    split
    · rfl
    · rw [zu_ne (by omega)]
  unfold zmx
  rw [e 35 (by omega), e 36 (by omega)]
theorem zmx_P2 (t : Nat → Int32) {q : Nat} (hq : q = 0 ∨ q = 1) (a : Int32) : zmx (rP2 t q a) = fFar (zmx t) a := by
  unfold zmx rP2 fFar
  rcases hq with rfl | rfl
  · by_cases e : a ≤ t (35 + 0)
    · rw [if_pos e]
      rw [nle] at e
      by_cases e2 : t 35 < t 36
      · rw [if_pos e2, if_pos]
        rw [nlt] at e2
        rw [nle]
        have : (t (35 + 0)).toInt = (t 35).toInt := rfl
        omega
      · rw [if_neg e2, if_pos]
        rw [nle]
        exact e
    · rw [if_neg e]
      rw [nle] at e
      have e' : ¬ a.toInt ≤ (t 35).toInt := e
      rw [zu_self (k := 35), zu_ne (show 36 ≠ 35 + 0 by decide)]
      by_cases e2 : t 35 < t 36
      · rw [if_pos e2]
        by_cases e3 : a ≤ t 36
        · rw [if_pos e3]
          by_cases e4 : a < t 36
          · rw [if_pos e4]
          · rw [if_neg e4, neq]
            rw [nlt] at e4
            rw [nle] at e3
            omega
        · rw [if_neg e3, if_neg]
          rw [nle] at e3
          rw [nlt]
          omega
      · rw [if_neg e2, if_neg (fun x => e ((nle _ _).mp x)), if_neg]
        rw [nlt] at e2 ⊢
        omega
  · by_cases e : a ≤ t (35 + 1)
    · rw [if_pos e]
      rw [nle] at e
      have e' : a.toInt ≤ (t 36).toInt := e
      by_cases e2 : t 35 < t 36
      · rw [if_pos e2, if_pos]
        rw [nle]
        exact e'
      · rw [if_neg e2, if_pos]
        rw [nlt] at e2
        rw [nle]
        omega
    · rw [if_neg e]
      rw [nle] at e
      have e' : ¬ a.toInt ≤ (t 36).toInt := e
      rw [zu_self (k := 36), zu_ne (show 35 ≠ 35 + 1 by decide)]
      by_cases e2 : t 35 < t 36
      · rw [if_pos e2, if_neg (fun x => e ((nle _ _).mp x)), if_pos]
        rw [nlt] at e2 ⊢
        omega
      · rw [if_neg e2]
        by_cases e3 : a ≤ t 35
        · rw [if_pos e3, if_neg]
          rw [nle] at e3
          rw [nlt]
          omega
        · rw [if_neg e3, if_pos]
          rw [nle] at e3
          rw [nlt]
          omega
theorem zTk_print (t : Nat → Int32) {q : Nat} (hq : q = 0 ∨ q = 1) (far a pr pos : Int32) : zTk t (rP3 (rP2 t q a) q pr pos) far (fFar far a) 1 := by
  refine ⟨fun e => by rw [zmx_P3 _ (by omega), zmx_P2 _ hq, e], ?_⟩
  have o : ∀ k, k < 35 → rP2 t q a k = t k := fun k hk => rP2_out t a (by omega)
  unfold rP3
  by_cases e : pr = pos
  · rw [if_pos e, o 33 (by omega), o 34 (by omega)]
    exact ⟨0, by omega, (Int32.add_zero _).symm⟩
  · rw [if_neg e]
    refine ⟨1, Nat.le_refl _, ?_⟩
    rcases hq with rfl | rfl
    · rw [zu_self (k := 33), zu_ne (show 34 ≠ 33 + 0 by decide), o 34 (by omega), show rP2 t 0 a (33 + 0) = t 33 from o 33 (by omega)]
      show t 33 + 1 + t 34 = t 33 + t 34 + 1
      rw [Int32.add_assoc, Int32.add_comm 1 (t 34), ← Int32.add_assoc]
    · rw [zu_self (k := 34), zu_ne (show 33 ≠ 33 + 1 by decide), o 33 (by omega), show rP2 t 1 a (33 + 1) = t 34 from o 34 (by omega)]
      show t 33 + (t 34 + 1) = t 33 + t 34 + 1
      rw [← Int32.add_assoc]
