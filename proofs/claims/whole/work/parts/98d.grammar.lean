/-! THE GRAMMAR, as it is said of rows: what a text makes of a row, or where it fails -/
abbrev zRow : Type := Nat → Int32
def pSemi (c : Nat → Int32) (n : Nat) (r : zRow) (o q : Nat) : Nat ⊕ (zRow × Nat × Nat) := if tK c n (tE c n q) = 3 then .inr (r, o, tE c n q) else .inl (tS c n (tE c n q))
def pNb (c : Nat → Int32) (n q : Nat) (lo hi : Int32) : Bool := decide (tK c n q = 2) && decide (lo.toInt ≤ (tV c n q).toInt) && decide ((tV c n q).toInt ≤ hi.toInt)
theorem pNb_t {c : Nat → Int32} {n q : Nat} {lo hi : Int32} : pNb c n q lo hi = true ↔ pN c n q lo hi := by
  unfold pNb pN
  rw [Bool.and_eq_true, Bool.and_eq_true, decide_eq_true_eq, decide_eq_true_eq, decide_eq_true_eq]
  exact ⟨fun h => ⟨h.1.1, h.1.2, h.2⟩, fun h => ⟨⟨h.1, h.2.1⟩, h.2.2⟩⟩
def pSet (c : Nat → Int32) (n : Nat) (k : Nat) (lo hi : Int32) (r : zRow) (o q : Nat) : Nat ⊕ (zRow × Nat × Nat) := if pNb c n (tE c n q) lo hi = true then pSemi c n (zu r k (tV c n (tE c n q))) o (tE c n q) else .inl (tS c n (tE c n q))
def pOff (c : Nat → Int32) (n : Nat) (r : zRow) (o q : Nat) : Nat ⊕ (zRow × Nat × Nat) := if 2 ≤ o then .inl (tS c n q) else if pNb c n (tE c n q) 0 (1000 * r 0 - 1) = true then (if pNb c n (tE c n (tE c n q)) 10 999 = true then pSemi c n (zu (zu r (21 + o) (tV c n (tE c n q))) (23 + o) (tV c n (tE c n (tE c n q)))) (o + 1) (tE c n (tE c n q)) else .inl (tS c n (tE c n (tE c n q)))) else .inl (tS c n (tE c n q))
def rLose (r : zRow) (v : Int32) : zRow := zu (zu r (39 + (r 20).toNatClampNeg) v) 20 (r 20 + 1)
def pLos (c : Nat → Int32) (n : Nat) (r : zRow) (o q : Nat) : Nat ⊕ (zRow × Nat × Nat) := if 20 ≤ (r 20).toInt then .inl (tS c n q) else if pNb c n (tE c n q) 1 9999 = true then pSemi c n (rLose r (tV c n (tE c n q))) o (tE c n q) else .inl (tS c n (tE c n q))
/-- a line is new; characters come to the last line -/
def pNew (r : zRow) (v : Nat) : zRow := zu (zu r (219 + 12 * v + (r (25 + v)).toNatClampNeg) 0) (25 + v) (r (25 + v) + 1)
def pApp (c : Nat → Int32) (s a : Nat) (r : zRow) : Nat → zRow
  | 0 => r
  | i + 1 => zu (zu (pApp c s a r i) (243 + 30 * a + (pApp c s a r i (219 + a)).toNatClampNeg) (c (s + i))) (219 + a) (pApp c s a r i (219 + a) + 1)
def pLn (r : zRow) (v : Nat) : Nat := 12 * v + ((r (25 + v)).toNatClampNeg - 1)
def pFitb (c : Nat → Int32) (s : Nat) (N : Int32) (m : Nat) : Bool := (List.range m).all fun j => decide ((zidx (c (s + j))).toInt < N.toInt - 2)
def pItb (c : Nat → Int32) (n : Nat) (r : zRow) (v q : Nat) : Bool := pFitb c (tS c n q) (r 0) (tE c n q - tS c n q) && decide ((r (219 + pLn r v)).toInt + ((tE c n q - tS c n q : Nat) : Int) ≤ 30)
def pIts (c : Nat → Int32) (n v : Nat) : Nat → Bool → zRow → Nat → Nat ⊕ (zRow × Nat)
  | 0, _, _, q => .inl (tS c n q)
  | d + 1, f, r, q => if tK c n q = 3 then (if f = true then .inl (tS c n q) else .inr (r, q)) else if tK c n q = 4 then (if 12 ≤ (r (25 + v)).toInt then .inl (tS c n q) else pIts c n v d false (pNew r v) (tE c n q)) else if tK c n q = 1 ∨ tK c n q = 2 then (if pItb c n r v q = true then pIts c n v d false (pApp c (tS c n q) (pLn r v) r (tE c n q - tS c n q)) (tE c n q) else .inl (tS c n q)) else .inl (tS c n q)
def pMsg2 (o : Nat) : Nat ⊕ (zRow × Nat) → Nat ⊕ (zRow × Nat × Nat)
  | .inl e => .inl e
  | .inr (r, q) => .inr (r, o, q)
def pMsg (c : Nat → Int32) (n : Nat) (r : zRow) (o q : Nat) : Nat ⊕ (zRow × Nat × Nat) := if pNb c n (tE c n q) 0 1 = true then (if 12 ≤ (r (25 + (tV c n (tE c n q)).toNatClampNeg)).toInt then .inl (tS c n (tE c n q)) else pMsg2 o (pIts c n (tV c n (tE c n q)).toNatClampNeg (n + 1) true (pNew r (tV c n (tE c n q)).toNatClampNeg) (tE c n (tE c n q)))) else .inl (tS c n (tE c n q))
noncomputable def pStmt (c : Nat → Int32) (n : Nat) (f : Bool) (r : zRow) (o q : Nat) : Nat ⊕ (zRow × Nat × Nat) := @ite _ (tW c n q 2) (Classical.propDecidable _) (pMsg c n r o q) (@ite _ (tW c n q 3) (Classical.propDecidable _) (if f = true then pSet c n 0 6 28 r o q else .inl (tS c n q)) (@ite _ (tW c n q 4) (Classical.propDecidable _) (pOff c n r o q) (@ite _ (tW c n q 5) (Classical.propDecidable _) (pLos c n r o q) (@ite _ (tW c n q 6) (Classical.propDecidable _) (pSet c n 1 1 50 r o q) (@ite _ (tW c n q 7) (Classical.propDecidable _) (pSet c n 2 0 500 r o q) (@ite _ (tW c n q 8) (Classical.propDecidable _) (pSet c n 3 1 5000 r o q) (@ite _ (tW c n q 9) (Classical.propDecidable _) (pSet c n 4 0 9 r o q) (.inl (tS c n q)))))))))
noncomputable def pTx (c : Nat → Int32) (n : Nat) : Nat → Bool → zRow → Nat → Nat → Nat ⊕ zRow
  | 0, _, r, _, _ => .inr r
  | d + 1, f, r, o, q => if tK c n q = 0 then .inr r else match pStmt c n f r o q with
    | .inl e => .inl e
    | .inr (r', o', q') => pTx c n d false r' o' (tE c n q')
