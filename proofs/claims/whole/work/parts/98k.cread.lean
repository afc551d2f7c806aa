/-! THE CLASS READS a text -/
section ZREAD
variable {ln : Nat → Nat} {σ : zS} {p : Nat} {c : Nat → Int32} {n : Nat}
theorem c_stmt {f3 f4 : Nat → Int32} {F : Nat → Nat → Int32} {r : zRow} {o q : Nat} (hp : 5 ≤ p) (G : zTg (gr σ) ln) (T : zTc σ c n) (PS : zPs (gr σ) ln p) (V : zPV r o) (hqn : q ≤ n) (ho : f3 1 = nI o) (t : tok f4 c n q) (P : zPn F r) {f : Bool} {x : Int32} (hx : x = if f = true then 1 else 0) {Q : Int32 → zS → Prop} (hR : cR σ p c n Q (pStmt c n f r o q)) : wX5_statement ln (zpc σ p f3 f4 F) 3 p x Q := by
  subst hx
  unfold pStmt at hR
  refine ⟨4, G.2.1, c_isWord hp G T (by decide) (by decide) t (fun w2 => ⟨fun x => absurd x (by decide), fun _ => ?_⟩) (fun w2 => ⟨fun _ => ?_, fun x => absurd rfl x⟩)⟩
  · rw [if_pos w2] at hR
    exact c_msgst hp G T PS V hqn ho t P hR
  rw [if_neg w2] at hR
  refine ⟨4, G.2.1, c_isWord hp G T (by decide) (by decide) t (fun w3 => ⟨fun x => absurd x (by decide), fun _ => ?_⟩) (fun w3 => ⟨fun _ => ?_, fun x => absurd rfl x⟩)⟩
  · rw [if_pos w3] at hR
    by_cases hf : f = true
    · rw [if_pos hf] at hR ⊢
      exact ⟨fun x => absurd x (by decide), fun _ => c_wheel hp G T hqn ho t P hR⟩
    · rw [if_neg hf] at hR ⊢
      exact ⟨fun _ => c_99z (hR.1 _ rfl _ _ _ t.2.1), fun x => absurd rfl x⟩
  rw [if_neg w3] at hR
  refine ⟨4, G.2.1, c_isWord hp G T (by decide) (by decide) t (fun w4 => ⟨fun x => absurd x (by decide), fun _ => ?_⟩) (fun w4 => ⟨fun _ => ?_, fun x => absurd rfl x⟩)⟩
  · rw [if_pos w4] at hR
    exact c_offst hp G T PS V hqn ho t P hR
  rw [if_neg w4] at hR
  refine ⟨4, G.2.1, c_isWord hp G T (by decide) (by decide) t (fun w5 => ⟨fun x => absurd x (by decide), fun _ => ?_⟩) (fun w5 => ⟨fun _ => ?_, fun x => absurd rfl x⟩)⟩
  · rw [if_pos w5] at hR
    exact c_loss hp G T PS V hqn ho t P hR
  rw [if_neg w5] at hR
  refine ⟨4, G.2.1, c_isWord hp G T (by decide) (by decide) t (fun w6 => ⟨fun x => absurd x (by decide), fun _ => ?_⟩) (fun w6 => ⟨fun _ => ?_, fun x => absurd rfl x⟩)⟩
  · rw [if_pos w6] at hR
    exact c_setk hp G T (by decide) (by decide) hqn ho t P hR
  rw [if_neg w6] at hR
  refine ⟨4, G.2.1, c_isWord hp G T (by decide) (by decide) t (fun w7 => ⟨fun x => absurd x (by decide), fun _ => ?_⟩) (fun w7 => ⟨fun _ => ?_, fun x => absurd rfl x⟩)⟩
  · rw [if_pos w7] at hR
    exact c_setk hp G T (by decide) (by decide) hqn ho t P hR
  rw [if_neg w7] at hR
  refine ⟨4, G.2.1, c_isWord hp G T (by decide) (by decide) t (fun w8 => ⟨fun x => absurd x (by decide), fun _ => ?_⟩) (fun w8 => ⟨fun _ => ?_, fun x => absurd rfl x⟩)⟩
  · rw [if_pos w8] at hR
    exact c_setk hp G T (by decide) (by decide) hqn ho t P hR
  rw [if_neg w8] at hR
  refine ⟨4, G.2.1, c_isWord hp G T (by decide) (by decide) t (fun w9 => ⟨fun x => absurd x (by decide), fun _ => ?_⟩) (fun w9 => ⟨fun _ => ?_, fun x => absurd rfl x⟩)⟩
  · rw [if_pos w9] at hR
    exact c_setk hp G T (by decide) (by decide) hqn ho t P hR
  rw [if_neg w9] at hR
  exact c_99z (hR.1 _ rfl _ _ _ t.2.1)
theorem pTx_ok : ∀ (d : Nat) (f : Bool) (r : zRow) (o q : Nat) {r' : zRow}, zPV r o → (f = true → zFst r) → pTx c n d f r o q = .inr r' → ∃ o', zPV r' o'
  | 0, f, r, o, q, r', V, hf, e => by
    rw [pTx] at e
    cases e
    exact ⟨o, V⟩
  | d + 1, f, r, o, q, r', V, hf, e => by
    rw [pTx] at e
    by_cases h0 : tK c n q = 0
    · rw [if_pos h0] at e
      cases e
      exact ⟨o, V⟩
    · rw [if_neg h0] at e
      cases hS : pStmt c n f r o q with
      | inl x => rw [hS] at e; cases e
      | inr x =>
        obtain ⟨r1, o1, q1⟩ := x
        rw [hS] at e
        obtain ⟨a1, a2, a3⟩ := pStmt_ok V hf hS
        exact pTx_ok d false r1 o1 (tE c n q1) a1 (fun h => nomatch h) e
theorem c_read18 (hp : 5 ≤ p) (G : zTg (gr σ) ln) (T : zTc σ c n) (PS : zPs (gr σ) ln p) {Q : Int32 → zS → Prop} : ∀ (d i q o : Nat) (f : Bool) (r : zRow) (f3 f4 : Nat → Int32) (F : Nat → Nat → Int32), n + 1 ≤ q + d → i ≤ q → q ≤ n → (f = true ↔ i = 0) → zPV r o → (f = true → zFst r) → f3 1 = nI o → tok f4 c n q → zPn F r → (∀ e, pTx c n d f r o q = .inl e → ∀ (f3 f4 : Nat → Int32) (F : Nat → Nat → Int32), Q (nI e) (zpc σ p f3 f4 F)) → (∀ r', pTx c n d f r o q = .inr r' → ∀ (f3 f4 : Nat → Int32) (F : Nat → Nat → Int32), zPn F r' → wX5_read_75 ln Q p (zpc σ p f3 f4 F)) → wX5_read_18 ln Q (d + 1) 3 p (nI i) (zpc σ p f3 f4 F)
  | 0, i, q, o, f, r, f3, f4, F, hd, hi, hqn, hf, V, hfs, ho, t, P, hE, hO => absurd hd (by omega)
  | d + 1, i, q, o, f, r, f3, f4, F, hd, hi, hqn, hf, V, hfs, ho, t, P, hE, hO => by
    have hn := T.1
    rw [pTx] at hE hO
    rw [wX5_read_18]
    have end0 : tK c n q = 0 → wX5_read_75 ln Q p (zpc σ p f3 f4 F) := fun h0 => hO r (by rw [if_pos h0]) f3 f4 F P
    refine ⟨fun hx => end0 (tK_0.mpr ?_), fun hx => ⟨4, G.2.1, ?_⟩⟩
    · have h6 := (nI_leI (a := 600) (b := i) (by decide) (by omega)).mp hx
      have := tS_ge c n q
      omega
    rw [gi_zpc_4, t.1]
    refine ⟨end0, fun h0 => ?_⟩
    rw [if_neg h0] at hE hO
    have key : ∀ x : Int32, (x = if f = true then 1 else 0) → wX5_read_44 ln Q (wX5_read_18 ln Q (d + 1)) 3 p (nI i) x (zpc σ p f3 f4 F) := fun x hx => by
      refine c_stmt hp G T PS V hqn ho t P hx ⟨fun e he f3' f4' F' g1 => ⟨fun _ => ⟨4, G.2.1, ?_⟩, fun x => absurd rfl x⟩, fun r' o' q' he f3' f4' F' ho' t' P' => ⟨fun x => absurd x (by decide), fun _ => ⟨4, G.2.1, ?_⟩⟩⟩
      · rw [gi_zpc_4, g1]
        rw [he] at hE
        exact hE e rfl _ _ _
      · rw [he] at hE hO
        obtain ⟨a1, a2, a3⟩ := pStmt_ok V hfs he
        have hE2 := tE_le (c := c) (n := n) (q := q') (by rw [a3]; decide)
        have g2 := tE_q (c := c) (n := n) q'
        refine c_take hp G T (q := tE c n q') (by omega) t'.2.2 (fun f' b0 b1 b3 x5 e5 => ?_)
        rw [nI_1] at e5
        subst e5
        exact c_read18 hp G T PS d (i + 1) (tE c n q') o' false r' f3' f' F' (by omega) (by omega) hE2.1 ⟨(fun h => nomatch h), fun h => absurd h (by omega)⟩ a1 (fun h => nomatch h) ho' ⟨b0, b1, b3⟩ P' hE hO
    have i0 : nI i = 0 ↔ i = 0 := nI_eq (a := i) (b := 0) (by omega) (by omega)
    refine ⟨fun hx => key 1 ?_, fun hx => key 0 ?_⟩
    · rw [if_pos (hf.mpr (i0.mp hx))]
    · rw [if_neg (fun h => hx (i0.mpr (hf.mp h)))]
/-- the row of the empty text -/
def r00 : zRow := fun k => if k = 0 then 28 else if k = 1 then 1 else if k = 2 then 200 else if k = 3 then 600 else if k = 4 then 2 else if k = 6 then -1 else if k = 23 then 100 else if k = 24 then 100 else 0
theorem r00_z {k : Nat} (h : k ≠ 0 ∧ k ≠ 1 ∧ k ≠ 2 ∧ k ≠ 3 ∧ k ≠ 4 ∧ k ≠ 6 ∧ k ≠ 23 ∧ k ≠ 24) : r00 k = 0 := by
  unfold r00
  rw [if_neg h.1, if_neg h.2.1, if_neg h.2.2.1, if_neg h.2.2.2.1, if_neg h.2.2.2.2.1, if_neg h.2.2.2.2.2.1, if_neg h.2.2.2.2.2.2.1, if_neg h.2.2.2.2.2.2.2]
theorem zFst_r00 : zFst r00 := ⟨fun a ha => r00_z (by omega), rfl, rfl⟩
theorem zPV_r00 : zPV r00 0 := by
  have z0 : (0 : Int32).toInt = 0 := rfl
  refine ⟨⟨by decide, by decide, by decide, by decide, by decide⟩, by decide, fun v hv => ?_, fun a ha => ?_, ⟨rfl, fun k hk => r00_z (by omega)⟩, by decide⟩
  · rcases (show v = 0 ∨ v = 1 by omega) with rfl | rfl <;> decide
  · rw [r00_z (k := 219 + a) (by omega), z0]
    exact ⟨by omega, fun j hj => absurd hj (by omega)⟩
theorem zPn_r00 {σ : zS} {p : Nat} (h : zP0 σ p) : zPn (fun k => gi σ (p + k)) r00 := by
  obtain ⟨⟨a0, a1, a2, a3, a4⟩, b, ⟨d0, d1, d2⟩, e0, e1, e2⟩ := h
  refine ⟨⟨a0, a1, a2, a3, a4⟩, ⟨b, fun k hk => absurd hk (Nat.not_lt_zero k)⟩, fun v hv => ?_, fun v hv k hk hlt => ?_⟩
  · rcases (show v = 0 ∨ v = 1 by omega) with rfl | rfl
    · exact ⟨d0, d1, d2⟩
    · exact ⟨e0, e1, e2⟩
  · rw [r00_z (k := 25 + v) (by omega)] at hlt
    exact absurd hlt (by rw [show (0 : Int32).toInt = 0 from rfl]; omega)
/-- reading, from any store -/
theorem c_read (hp : 5 ≤ p) (G : zTg (gr σ) ln) (T : zTc σ c n) (PS : zPs (gr σ) ln p) {Q : Int32 → zS → Prop} (hE : ∀ e, pTx c n (n + 1) true r00 0 0 = .inl e → ∀ (f3 f4 : Nat → Int32) (F : Nat → Nat → Int32), Q (nI e) (zpc σ p f3 f4 F)) (hO : ∀ r, pTx c n (n + 1) true r00 0 0 = .inr r → ∀ (f3 f4 : Nat → Int32) (F : Nat → Nat → Int32), zPn F r → (∀ v : Nat, v < 2 → ∀ k : Nat, k < 12 → (k : Int) < (r (25 + v)).toInt → zPu F r v k) → Q (-1) (zpc σ p f3 f4 F)) : wX5_read ln σ 3 p Q := by
  refine c_reset PS.1.1 PS.2.1.1 PS.2.1.2 (fun σ' c1 c2 c3 c4 c5 => ?_)
  have e1 : σ' = zpc σ p (gi σ 3) (gi σ 4) (fun k => gi σ' (p + k)) := by
    refine zS_ext2 (fun a i => ?_) c1 (fun a i => by rw [c2]; rfl) c3
    rw [gi_zpc]
    by_cases h3 : a = 3
    · subst h3; rw [if_pos rfl, c4 _ (by omega)]
    · rw [if_neg h3]
      by_cases h4 : a = 4
      · subst h4; rw [if_pos rfl, c4 _ (by omega)]
      · rw [if_neg h4]
        by_cases h5 : p ≤ a ∧ a < p + 127
        · rw [if_pos h5]
          show gi σ' a i = gi σ' (p + (a - p)) i
          rw [show p + (a - p) = a by omega]
        · rw [if_neg h5, c4 _ (by omega)]
  have P := zPn_r00 c5
  generalize (fun k => gi σ' (p + k)) = F at e1 P
  subst e1
  intro σ2 e2
  rw [si_zpc_3] at e2
  subst e2
  refine ⟨4, G.2.1, fun σ1 e1 => ?_⟩
  rw [si_zpc_4] at e1
  subst e1
  refine c_take hp G T (q := 0) (by decide) (by rw [zu_self]; rfl) (fun f' b0 b1 b3 => ⟨n + 1 + 1, ?_⟩)
  refine c_read18 hp G T PS (n + 1) 0 0 0 true r00 _ f' F (by omega) (by decide) (by omega) ⟨fun _ => rfl, fun _ => rfl⟩ zPV_r00 (fun _ => zFst_r00) (by rw [zu_self]; rfl) ⟨b0, b1, b3⟩ P hE (fun r' h f3 f4 F' P' => ?_)
  obtain ⟨o', V'⟩ := pTx_ok _ _ _ _ _ zPV_r00 (fun _ => zFst_r00) h
  exact c_read75 hp PS V' P' (fun F2 P2 u2 => hO r' h _ _ _ P2 u2)
end ZREAD
