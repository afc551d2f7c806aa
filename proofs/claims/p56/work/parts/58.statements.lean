/-! THE TEXT as the class reads it: the statements, and the row that comes out -/
theorem W13 : zSbyt.getD 13 [] = zSbyt.getD 5 [] ++ [32] ∧ zSbyt.getD 14 [] = 59 :: (zSbyt.getD 6 [] ++ [32]) ∧ zSbyt.getD 15 [] = 59 :: (zSbyt.getD 8 [] ++ [32]) ∧ zSbyt.getD 16 [] = 59 :: (zSbyt.getD 9 [] ++ [32]) ∧ zSbyt.getD 17 [] = 59 :: (zSbyt.getD 4 [] ++ [32, 48]) := by decide +kernel
theorem dec0 : dec 0 = [48] := by decide +kernel
section QSTM
variable {c : Nat → Int32} {n : Nat}
/-- a word and a number behind it -/
theorem wn_at {q i v : Nat} {R : List Int32} (hi : 4 ≤ i) (hi2 : i < 12) (h : zAt c q (zSbyt.getD i [] ++ ((32 :: dec v) ++ R))) (hn : q + (zSbyt.getD i [] ++ ((32 :: dec v) ++ R)).length = n) : tS c n q = q ∧ tE c n q = q + zSlen.getD i 0 ∧ tW c n q i ∧ zAt c (q + zSlen.getD i 0) (32 :: dec v) ∧ zAt c (q + zSlen.getD i 0 + 1 + nd v) R ∧ q + zSlen.getD i 0 + 1 + nd v + R.length = n := by
  obtain ⟨b1, b2, b3⟩ := zSw i hi hi2
  rw [List.length_append, List.length_append, List.length_cons, dec_len, b1] at hn
  obtain ⟨h1, h2⟩ := zAt_app h
  rw [b1] at h2
  obtain ⟨h3, h4⟩ := zAt_app h2
  rw [List.length_cons, dec_len] at h4
  obtain ⟨t1, t2, t3⟩ := tok_wd (n := n) hi hi2 h1 (by omega) (zAt_c h3).1
  refine ⟨t1, t2, t3, h3, ?_, by omega⟩
  rw [show q + zSlen.getD i 0 + 1 + nd v = q + zSlen.getD i 0 + (nd v + 1) by omega]
  exact h4
theorem no_wd {q i j : Nat} (hi : 4 ≤ i) (hi2 : i < 12) (hW : tW c n q i) (hj : 4 ≤ j) (hj2 : j < 12) (ne : j ≠ i) : ¬ tW c n q j := fun h => ne (tW_uniq hj hj2 hi hi2 h hW)
theorem ps_4 {q o : Nat} {f : Bool} {r : zRow} (hW : tW c n q 4) : pStmt c n f r o q = pMsg c n r o q := by
  unfold pStmt
  rw [if_pos hW]
theorem ps_5 {q o : Nat} {r : zRow} (hW : tW c n q 5) : pStmt c n true r o q = pSet c n 0 6 28 r o q := by
  have no := fun j (a : 4 ≤ j) (b : j < 12) (e : j ≠ 5) => no_wd (by decide) (by decide) hW a b e
  unfold pStmt
  rw [if_neg (no 4 (by decide) (by decide) (by decide)), if_pos hW, if_pos rfl]
theorem ps_6 {q o : Nat} {f : Bool} {r : zRow} (hW : tW c n q 6) : pStmt c n f r o q = pOff c n r o q := by
  have no := fun j (a : 4 ≤ j) (b : j < 12) (e : j ≠ 6) => no_wd (by decide) (by decide) hW a b e
  unfold pStmt
  rw [if_neg (no 4 (by decide) (by decide) (by decide)), if_neg (no 5 (by decide) (by decide) (by decide)), if_pos hW]
theorem ps_8 {q o : Nat} {f : Bool} {r : zRow} (hW : tW c n q 8) : pStmt c n f r o q = pSet c n 1 1 50 r o q := by
  have no := fun j (a : 4 ≤ j) (b : j < 12) (e : j ≠ 8) => no_wd (by decide) (by decide) hW a b e
  unfold pStmt
  rw [if_neg (no 4 (by decide) (by decide) (by decide)), if_neg (no 5 (by decide) (by decide) (by decide)), if_neg (no 6 (by decide) (by decide) (by decide)), if_neg (no 7 (by decide) (by decide) (by decide)), if_pos hW]
theorem ps_9 {q o : Nat} {f : Bool} {r : zRow} (hW : tW c n q 9) : pStmt c n f r o q = pSet c n 2 0 500 r o q := by
  have no := fun j (a : 4 ≤ j) (b : j < 12) (e : j ≠ 9) => no_wd (by decide) (by decide) hW a b e
  unfold pStmt
  rw [if_neg (no 4 (by decide) (by decide) (by decide)), if_neg (no 5 (by decide) (by decide) (by decide)), if_neg (no 6 (by decide) (by decide) (by decide)), if_neg (no 7 (by decide) (by decide) (by decide)), if_neg (no 8 (by decide) (by decide) (by decide)), if_pos hW]
theorem px_go {d q o o' e i : Nat} {f : Bool} {r r' : zRow} (hW : tW c n q i) (h : pStmt c n f r o q = .inr (r', o', e)) (he : e < n) (hx : c e = 59) : pTx c n (d + 1) f r o q = pTx c n d false r' o' (e + 1) := by
  rw [pTx, if_neg (by rw [hW.1]; decide), h]
  show pTx c n d false r' o' (tE c n e) = _
  rw [(tok_semi he hx).2.1]
/-- a setting -/
theorem st_set {d q o i v k : Nat} {lo hi : Int32} {f : Bool} {r : zRow} {R : List Int32} (i1 : 4 ≤ i) (i2 : i < 12) (hv : v < 100000) (h1 : lo.toInt ≤ v) (h2 : (v : Int) ≤ hi.toInt) (hs : tW c n q i → pStmt c n f r o q = pSet c n k lo hi r o q) (h : zAt c q (zSbyt.getD i [] ++ ((32 :: dec v) ++ (59 :: R)))) (hn : q + (zSbyt.getD i [] ++ ((32 :: dec v) ++ (59 :: R))).length = n) : ∃ q', q < q' ∧ zAt c q' R ∧ q' + R.length = n ∧ pTx c n (d + 1) f r o q = pTx c n d false (zu r k (nI v)) o q' := by
  obtain ⟨t1, t2, t3, a1, a2, a3⟩ := wn_at i1 i2 h hn
  obtain ⟨a4, a5⟩ := zAt_c a2
  rw [List.length_cons] at a3
  refine ⟨_, by omega, a5, by omega, ?_⟩
  exact px_go t3 ((hs t3).trans (p_set t2 hv a1 (by omega) a4 h1 h2)) (by omega) a4
/-- an office -/
theorem st_off {d q o v w : Nat} {f : Bool} {r : zRow} {R : List Int32} (ho : o < 2) (hv : v < 100000) (hw : w < 100000) (h1 : (v : Int) ≤ (1000 * r 0 - 1).toInt) (h2 : 10 ≤ w ∧ w ≤ 999) (h : zAt c q (zSbyt.getD 6 [] ++ ((32 :: dec v) ++ ((32 :: dec w) ++ (59 :: R))))) (hn : q + (zSbyt.getD 6 [] ++ ((32 :: dec v) ++ ((32 :: dec w) ++ (59 :: R)))).length = n) : ∃ q', q < q' ∧ zAt c q' R ∧ q' + R.length = n ∧ pTx c n (d + 1) f r o q = pTx c n d false (zu (zu r (21 + o) (nI v)) (23 + o) (nI w)) (o + 1) q' := by
  obtain ⟨t1, t2, t3, a1, a2, a3⟩ := wn_at (by decide) (by decide) h hn
  obtain ⟨a6, a7⟩ := zAt_app a2
  rw [List.length_cons, dec_len] at a7
  obtain ⟨a4, a5⟩ := zAt_c a7
  rw [List.length_append, List.length_cons, List.length_cons, dec_len] at a3
  have e : q + zSlen.getD 6 0 + 1 + nd v + (nd w + 1) = q + zSlen.getD 6 0 + 1 + nd v + 1 + nd w := by omega
  rw [e] at a4 a5
  refine ⟨_, by omega, a5, by omega, ?_⟩
  exact px_go t3 ((ps_6 t3).trans (p_off ho t2 hv hw a1 a6 (by omega) a4 h1 h2)) (by omega) a4
variable {L : Nat} {xs : Nat → Int32}
/-- the message -/
theorem st_msg {d q o : Nat} {f : Bool} {r : zRow} (hP : r 0 = nI (qP L xs)) (h25 : r 25 = 0) (hF : 21 ≤ n) (h : zAt c q (zSbyt.getD 4 [] ++ ((32 :: dec 0) ++ (mK L xs (qLn L xs) 0 ++ [59])))) (hn : q + (zSbyt.getD 4 [] ++ ((32 :: dec 0) ++ (mK L xs (qLn L xs) 0 ++ [59]))).length = n) : ∃ r', LR L xs r r' (qLn L xs - 1) (lT L xs (qLn L xs - 1)).length ∧ pTx c n (d + 2) f r o q = .inr r' := by
  have hb := qLn_b L xs
  obtain ⟨t1, t2, t3, a1, a2, a3⟩ := wn_at (by decide) (by decide) h hn
  rw [List.length_append] at a3
  have a3 : q + zSlen.getD 4 0 + 1 + nd 0 + ((mK L xs (qLn L xs) 0).length + 1) = n := a3
  have hz := ndl_b 0
  have hnx : c (q + zSlen.getD 4 0 + 1 + nd 0) = 32 ∨ c (q + zSlen.getD 4 0 + 1 + nd 0) = 59 := by
    obtain ⟨dd, ed⟩ : ∃ dd, qLn L xs = dd + 1 := ⟨qLn L xs - 1, by omega⟩
    have a2' := a2
    rw [ed, mK, if_pos rfl, List.nil_append, List.append_assoc] at a2'
    match hl : lT L xs 0 with
    | [] =>
      rw [hl, sp, List.nil_append] at a2'
      exact mK_hd (k := 0) a2'
    | x :: l =>
      rw [hl, sp, List.cons_append] at a2'
      exact Or.inl (zAt_c a2').1
  obtain ⟨s1, s2, s3, s4⟩ := tok_num (n := n) (v := 0) (by decide) a1 (by omega) (fun _ => by
    rcases hnx with e | e
    · rw [e, xK_32.1]; decide
    · rw [e, xK_32.2.1]; decide)
  obtain ⟨r', R', E'⟩ := it_all (n := n) (r0 := r) (F := n + 1 - 22) hP h25 a2 (by omega)
  have he : c (q + zSlen.getD 4 0 + 1 + nd 0 + (mK L xs (qLn L xs) 0).length) = 59 := (zAt_c (zAt_app a2).2).1
  have ez : (nI 0).toNatClampNeg = 0 := rfl
  have e0 : (0 : Int32).toInt = 0 := rfl
  refine ⟨r', R', ?_⟩
  have hm : pMsg c n r o q = .inr (r', o, q + zSlen.getD 4 0 + 1 + nd 0 + (mK L xs (qLn L xs) 0).length) := by
    unfold pMsg
    rw [t2, if_pos (p_nb s3 s4 (by decide) (by decide) (by decide)), s4, ez, Nat.add_zero, h25, if_neg (by decide), s2]
    rw [show n + 1 - 22 + 22 = n + 1 by omega] at E'
    rw [E']
    rfl
  rw [px_go (d := d + 1) t3 ((ps_4 t3).trans hm) (by omega) he, pTx, if_pos (tok_end (by omega))]
end QSTM
/-- the row that comes out of the text -/
def qR0 (L : Nat) (xs : Nat → Int32) (r : zRow) : Prop :=
  (r 0 = nI (qP L xs) ∧ r 1 = nI (qDl L xs) ∧ r 2 = nI (qC L xs)) ∧ (r 21 = nI (qF L xs) ∧ r 22 = nI (qF1 L xs) ∧ r 23 = nI (qR L xs) ∧ r 24 = nI (qR1 L xs)) ∧ r 25 = nI (qLn L xs) ∧ (∀ x, x < 219 → ¬ (x < 3 ∨ (21 ≤ x ∧ x < 26)) → r x = r00 x) ∧ ∀ k, k < qLn L xs → r (219 + k) = nI (lT L xs k).length ∧ ∀ i, i < (lT L xs k).length → r (243 + 30 * k + i) = (lT L xs k).getD i 0
theorem qT_e (L : Nat) (xs : Nat → Int32) : qT L xs = zSbyt.getD 5 [] ++ ((32 :: dec (qP L xs)) ++ (59 :: (zSbyt.getD 6 [] ++ ((32 :: dec (qF L xs)) ++ ((32 :: dec (qR L xs)) ++ (59 :: (zSbyt.getD 6 [] ++ ((32 :: dec (qF1 L xs)) ++ ((32 :: dec (qR1 L xs)) ++ (59 :: (zSbyt.getD 8 [] ++ ((32 :: dec (qDl L xs)) ++ (59 :: (zSbyt.getD 9 [] ++ ((32 :: dec (qC L xs)) ++ (59 :: (zSbyt.getD 4 [] ++ ((32 :: dec 0) ++ (mK L xs (qLn L xs) 0 ++ [59]))))))))))))))))))) := by
  obtain ⟨w1, w2, w3, w4, w5⟩ := W13
  unfold qT hT
  rw [w1, w2, w3, w4, w5, dec0]
  simp only [List.append_assoc, List.cons_append, List.nil_append]
theorem qT_len (L : Nat) (xs : Nat → Int32) : 40 ≤ (qT L xs).length ∧ (qT L xs).length ≤ 128 := by
  obtain ⟨w1, w2, w3, w4, w5, -, -⟩ := wdl
  have h2 := hT_len L xs
  have h3 := mK_len L xs (qLn L xs) 0
  have h4 := qLn_b L xs
  have h1 : 40 ≤ (hT L xs).length := by
    unfold hT
    simp only [List.length_append, w1, w2, w3, w4, w5]
    omega
  unfold qT
  rw [List.length_append, List.length_append]
  show 40 ≤ _ + 1 ∧ _ + 1 ≤ 128
  omega
theorem q_text {L : Nat} {xs : Nat → Int32} {c : Nat → Int32} (h : zAt c 0 (qT L xs)) : ∃ r, pTx c (qT L xs).length ((qT L xs).length + 1) true r00 0 0 = .inr r ∧ qR0 L xs r := by
  have hP := qP_b L xs
  have hF := qF_b L xs
  have hF1 := (qF1_b L xs).1
  have hD := qDl_b L xs
  have hR := qR_b L xs
  have hR1 := qR1_b L xs
  have hC := qC_b L xs
  have hLn := qLn_b L xs
  have hl := (qT_len L xs).1
  have hn : 0 + (qT L xs).length = (qT L xs).length := Nat.zero_add _
  generalize hN : (qT L xs).length = n at *
  rw [qT_e] at h hN
  obtain ⟨d, ed⟩ : ∃ d, n + 1 = d + 2 + 1 + 1 + 1 + 1 + 1 := ⟨n + 1 - 7, by omega⟩
  have t6 : (6 : Int32).toInt = 6 := rfl
  have t28 : (28 : Int32).toInt = 28 := rfl
  have t1 : (1 : Int32).toInt = 1 := rfl
  have t50 : (50 : Int32).toInt = 50 := rfl
  have t0 : (0 : Int32).toInt = 0 := rfl
  have t500 : (500 : Int32).toInt = 500 := rfl
  have ph : ((1000 : Int32) * nI (qP L xs) - 1).toInt = 1000 * (qP L xs : Int) - 1 := by
    rw [nI_1000, nsub (by rw [nI_toInt (by omega), t1]; omega) (by rw [nI_toInt (by omega), t1]; omega), nI_toInt (by omega), t1]
    omega
  obtain ⟨q1, l1, h1, n1, E1⟩ := st_set (n := n) (d := d + 2 + 1 + 1 + 1 + 1) (k := 0) (lo := 6) (hi := 28) (f := true) (r := r00) (o := 0) (by decide) (by decide) (by omega) (by rw [t6]; omega) (by rw [t28]; omega) ps_5 h (by rw [Nat.zero_add]; exact hN)
  obtain ⟨q2, l2, h2, n2, E2⟩ := st_off (n := n) (d := d + 2 + 1 + 1 + 1) (f := false) (r := zu r00 0 (nI (qP L xs))) (o := 0) (by decide) (by omega) (by omega) (by rw [zu_self, ph]; omega) (by omega) h1 n1
  obtain ⟨q3, l3, h3, n3, E3⟩ := st_off (n := n) (d := d + 2 + 1 + 1) (f := false) (r := zu (zu (zu r00 0 (nI (qP L xs))) (21 + 0) (nI (qF L xs))) (23 + 0) (nI (qR L xs))) (o := 1) (by decide) (by omega) (by omega) (by rw [zu_ne (by decide), zu_ne (by decide), zu_self, ph]; omega) (by omega) h2 n2
  obtain ⟨q4, l4, h4, n4, E4⟩ := st_set (n := n) (d := d + 2 + 1) (k := 1) (lo := 1) (hi := 50) (f := false) (r := zu (zu (zu (zu (zu r00 0 (nI (qP L xs))) (21 + 0) (nI (qF L xs))) (23 + 0) (nI (qR L xs))) (21 + 1) (nI (qF1 L xs))) (23 + 1) (nI (qR1 L xs))) (o := 2) (by decide) (by decide) (by omega) (by rw [t1]; omega) (by rw [t50]; omega) ps_8 h3 n3
  obtain ⟨q5, l5, h5, n5, E5⟩ := st_set (n := n) (d := d + 2) (k := 2) (lo := 0) (hi := 500) (f := false) (r := zu (zu (zu (zu (zu (zu r00 0 (nI (qP L xs))) (21 + 0) (nI (qF L xs))) (23 + 0) (nI (qR L xs))) (21 + 1) (nI (qF1 L xs))) (23 + 1) (nI (qR1 L xs))) 1 (nI (qDl L xs))) (o := 2) (by decide) (by decide) (by omega) (by rw [t0]; omega) (by rw [t500]; omega) ps_9 h4 n4
  have e0 : zu (zu (zu (zu (zu (zu (zu r00 0 (nI (qP L xs))) (21 + 0) (nI (qF L xs))) (23 + 0) (nI (qR L xs))) (21 + 1) (nI (qF1 L xs))) (23 + 1) (nI (qR1 L xs))) 1 (nI (qDl L xs))) 2 (nI (qC L xs)) 0 = nI (qP L xs) := by
    rw [zu_ne (by decide), zu_ne (by decide), zu_ne (by decide), zu_ne (by decide), zu_ne (by decide), zu_ne (by decide), zu_self]
  have eo : ∀ x, ¬ (x < 3 ∨ (21 ≤ x ∧ x < 25)) → zu (zu (zu (zu (zu (zu (zu r00 0 (nI (qP L xs))) (21 + 0) (nI (qF L xs))) (23 + 0) (nI (qR L xs))) (21 + 1) (nI (qF1 L xs))) (23 + 1) (nI (qR1 L xs))) 1 (nI (qDl L xs))) 2 (nI (qC L xs)) x = r00 x := fun x hx => by
    rw [zu_ne (by omega), zu_ne (by omega), zu_ne (by omega), zu_ne (by omega), zu_ne (by omega), zu_ne (by omega), zu_ne (by omega)]
  have e21 : zu (zu (zu (zu (zu (zu (zu r00 0 (nI (qP L xs))) (21 + 0) (nI (qF L xs))) (23 + 0) (nI (qR L xs))) (21 + 1) (nI (qF1 L xs))) (23 + 1) (nI (qR1 L xs))) 1 (nI (qDl L xs))) 2 (nI (qC L xs)) 21 = nI (qF L xs) := by
    rw [zu_ne (by decide), zu_ne (by decide), zu_ne (by decide), zu_ne (by decide), zu_ne (by decide)]
    exact zu_self _ _ _
  have e22 : zu (zu (zu (zu (zu (zu (zu r00 0 (nI (qP L xs))) (21 + 0) (nI (qF L xs))) (23 + 0) (nI (qR L xs))) (21 + 1) (nI (qF1 L xs))) (23 + 1) (nI (qR1 L xs))) 1 (nI (qDl L xs))) 2 (nI (qC L xs)) 22 = nI (qF1 L xs) := by
    rw [zu_ne (by decide), zu_ne (by decide), zu_ne (by decide)]
    exact zu_self _ _ _
  have e23 : zu (zu (zu (zu (zu (zu (zu r00 0 (nI (qP L xs))) (21 + 0) (nI (qF L xs))) (23 + 0) (nI (qR L xs))) (21 + 1) (nI (qF1 L xs))) (23 + 1) (nI (qR1 L xs))) 1 (nI (qDl L xs))) 2 (nI (qC L xs)) 23 = nI (qR L xs) := by
    rw [zu_ne (by decide), zu_ne (by decide), zu_ne (by decide), zu_ne (by decide)]
    exact zu_self _ _ _
  have e24 : zu (zu (zu (zu (zu (zu (zu r00 0 (nI (qP L xs))) (21 + 0) (nI (qF L xs))) (23 + 0) (nI (qR L xs))) (21 + 1) (nI (qF1 L xs))) (23 + 1) (nI (qR1 L xs))) 1 (nI (qDl L xs))) 2 (nI (qC L xs)) 24 = nI (qR1 L xs) := by
    rw [zu_ne (by decide), zu_ne (by decide)]
    exact zu_self _ _ _
  have e1 : zu (zu (zu (zu (zu (zu (zu r00 0 (nI (qP L xs))) (21 + 0) (nI (qF L xs))) (23 + 0) (nI (qR L xs))) (21 + 1) (nI (qF1 L xs))) (23 + 1) (nI (qR1 L xs))) 1 (nI (qDl L xs))) 2 (nI (qC L xs)) 1 = nI (qDl L xs) := by
    rw [zu_ne (by decide)]
    exact zu_self _ _ _
  have e2 : zu (zu (zu (zu (zu (zu (zu r00 0 (nI (qP L xs))) (21 + 0) (nI (qF L xs))) (23 + 0) (nI (qR L xs))) (21 + 1) (nI (qF1 L xs))) (23 + 1) (nI (qR1 L xs))) 1 (nI (qDl L xs))) 2 (nI (qC L xs)) 2 = nI (qC L xs) := zu_self _ _ _
  rw [ed, E1, E2, E3, E4, E5]
  clear E1 E2 E3 E4 E5 h h1 h2 h3 h4
  generalize zu (zu (zu (zu (zu (zu (zu r00 0 (nI (qP L xs))) (21 + 0) (nI (qF L xs))) (23 + 0) (nI (qR L xs))) (21 + 1) (nI (qF1 L xs))) (23 + 1) (nI (qR1 L xs))) 1 (nI (qDl L xs))) 2 (nI (qC L xs)) = r0 at *
  obtain ⟨r, H, E⟩ := st_msg (n := n) (d := d) (f := false) (o := 2) (r := r0) e0 (by rw [eo 25 (by decide)]; rfl) (by omega) h5 n5
  refine ⟨r, E, ?_⟩
  obtain ⟨a1, a2, a3, a4, a5⟩ := H
  refine ⟨⟨by rw [a5 0 (by decide) (by decide)]; exact e0, by rw [a5 1 (by decide) (by decide)]; exact e1, by rw [a5 2 (by decide) (by decide)]; exact e2⟩, ⟨by rw [a5 21 (by decide) (by decide)]; exact e21, by rw [a5 22 (by decide) (by decide)]; exact e22, by rw [a5 23 (by decide) (by decide)]; exact e23, by rw [a5 24 (by decide) (by decide)]; exact e24⟩, by rw [a1]; congr 1; omega, fun x hx hx2 => by rw [a5 x hx (by omega)]; exact eo x (by omega), fun k hk => ?_⟩
  by_cases e : k = qLn L xs - 1
  · rw [e]
    exact ⟨a3, a4⟩
  · exact a2 k (by omega)
