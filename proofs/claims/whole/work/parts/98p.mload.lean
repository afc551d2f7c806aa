/-! THE MODEL READS a text -/
section ZMLOAD
variable {ln : Nat → Nat} {σ : zS} {f0 : Nat → Int32} {c : Nat → Int32} {n : Nat}
theorem m_isWord {f : Nat → Int32} {w : Int64} {R : zRow} {q : Nat} (h21 : f 21 = 0) (t : mtk f w c n q) {i : Nat} (hi2 : 2 ≤ i) (hi : i < 10) {W : Int64} (hW' : W.toInt = hW i) {Q : Int32 → zS → Prop} (q1 : tW c n q i → Q 1 (zmr σ f w R)) (q0 : ¬ tW c n q i → Q 0 (zmr σ f w R)) : wX12_isWord ln (zmr σ f w R) 455 W Q := by
  unfold wX12_isWord
  rw [gi_zmr_f, t.1, gl_zmr_w, cmp_eq, neq64]
  refine ⟨fun _ => ⟨fun hk => ?_, fun hk => q0 (fun h => hk h.1)⟩, fun h => absurd h21 h⟩
  rw [t.2.2.2.2 hk, hW', tW_h hi2 hi hk]
  exact ⟨q1, q0⟩
theorem m_stmt {f : Nat → Int32} {w : Int64} {R : zRow} {r : zRow} {o q : Nat} (T : zTb σ ln c n) (g2 : gr σ 455 2 = some 457) (l2 : ln 457 = 4763) (V : zPV r o) (hf : mfo f0 f) (h14 : f 14 = f0 14) (h13 : f 13 = nI n) (h19 : f 19 = nI o) {b : Bool} (h20 : f 20 = if b = true then 1 else 0) (h21 : f 21 = 0) (t : mtk f w c n q) (hr : zcg r R) {Q : zS → Prop} (hR : mR σ c n f0 Q (pStmt c n b r o q)) : wX12_statement ln (zmr σ f w R) 455 Q := by
  obtain ⟨v2, v3, v4, v5, v6, v7, v8, v9⟩ := hW_v
  unfold pStmt at hR
  refine m_isWord h21 t (i := 3) (by decide) (by decide) (by rw [v3]; rfl) (fun w3 => ⟨fun x => absurd x (by decide), fun _ => ?_⟩) (fun w3 => ⟨fun _ => ?_, fun x => absurd rfl x⟩)
  · rw [if_neg (tW_ne (by decide) (by decide) (by decide) w3), if_pos w3] at hR
    exact m_wheel T g2 l2 w3.1 hf h14 h13 h19 h20 h21 t hr hR
  refine m_isWord h21 t (i := 4) (by decide) (by decide) (by rw [v4]; rfl) (fun w4 => ⟨fun x => absurd x (by decide), fun _ => ?_⟩) (fun w4 => ⟨fun _ => ?_, fun x => absurd rfl x⟩)
  · rw [if_neg (tW_ne (by decide) (by decide) (by decide) w4), if_neg w3, if_pos w4] at hR
    exact m_offst T g2 l2 V w4.1 hf h14 h13 h19 h21 t hr hR
  refine m_isWord h21 t (i := 6) (by decide) (by decide) (by rw [v6]; rfl) (fun w6 => ⟨fun x => absurd x (by decide), fun _ => ?_⟩) (fun w6 => ⟨fun _ => ?_, fun x => absurd rfl x⟩)
  · rw [if_neg (tW_ne (by decide) (by decide) (by decide) w6), if_neg w3, if_neg w4, if_neg (tW_ne (by decide) (by decide) (by decide) w6), if_pos w6] at hR
    exact m_setk T g2 l2 w6.1 hf h14 h13 h19 h21 t hr (k := 1) rfl (by decide) hR
  refine m_isWord h21 t (i := 7) (by decide) (by decide) (by rw [v7]; rfl) (fun w7 => ⟨fun x => absurd x (by decide), fun _ => ?_⟩) (fun w7 => ⟨fun _ => ?_, fun x => absurd rfl x⟩)
  · rw [if_neg (tW_ne (by decide) (by decide) (by decide) w7), if_neg w3, if_neg w4, if_neg (tW_ne (by decide) (by decide) (by decide) w7), if_neg w6, if_pos w7] at hR
    exact m_setk T g2 l2 w7.1 hf h14 h13 h19 h21 t hr (k := 2) rfl (by decide) hR
  refine m_isWord h21 t (i := 8) (by decide) (by decide) (by rw [v8]; rfl) (fun w8 => ⟨fun x => absurd x (by decide), fun _ => ?_⟩) (fun w8 => ⟨fun _ => ?_, fun x => absurd rfl x⟩)
  · rw [if_neg (tW_ne (by decide) (by decide) (by decide) w8), if_neg w3, if_neg w4, if_neg (tW_ne (by decide) (by decide) (by decide) w8), if_neg w6, if_neg w7, if_pos w8] at hR
    exact m_setk T g2 l2 w8.1 hf h14 h13 h19 h21 t hr (k := 3) rfl (by decide) hR
  refine m_isWord h21 t (i := 9) (by decide) (by decide) (by rw [v9]; rfl) (fun w9 => ⟨fun x => absurd x (by decide), fun _ => ?_⟩) (fun w9 => ⟨fun _ => ?_, fun x => absurd rfl x⟩)
  · rw [if_neg (tW_ne (by decide) (by decide) (by decide) w9), if_neg w3, if_neg w4, if_neg (tW_ne (by decide) (by decide) (by decide) w9), if_neg w6, if_neg w7, if_neg w8, if_pos w9] at hR
    exact m_setk T g2 l2 w9.1 hf h14 h13 h19 h21 t hr (k := 4) rfl (by decide) hR
  refine m_isWord h21 t (i := 5) (by decide) (by decide) (by rw [v5]; rfl) (fun w5 => ⟨fun x => absurd x (by decide), fun _ => ?_⟩) (fun w5 => ⟨fun _ => ?_, fun x => absurd rfl x⟩)
  · rw [if_neg (tW_ne (by decide) (by decide) (by decide) w5), if_neg w3, if_neg w4, if_pos w5] at hR
    exact m_loss T g2 l2 V w5.1 hf h14 h13 h19 h21 t hr hR
  refine m_isWord h21 t (i := 2) (by decide) (by decide) (by rw [v2]; rfl) (fun w2 => ?_) (fun w2 => ?_)
  · rw [if_pos w2] at hR
    exact m_must1 (by decide) ⟨fun _ => m_msgst T g2 l2 V w2.1 hf h14 h13 h19 h21 t hr hR, fun x => absurd h21 x⟩
  · rw [if_neg w2, if_neg w3, if_neg w4, if_neg w5, if_neg w6, if_neg w7, if_neg w8, if_neg w9] at hR
    refine m_mustE h21 ⟨fun x => ?_, fun _ => m_159w (hf.tr mbad_o) mbad_21 (by rw [mbad_14]; exact t.2.1) rfl hR⟩
    rw [gi_zmr_f, mbad_21] at x
    exact absurd x (by decide)
theorem m_load41 (T : zTb σ ln c n) (g2 : gr σ 455 2 = some 457) (l2 : ln 457 = 4763) {Q : Int32 → zS → Prop} : ∀ (d q o : Nat) (b : Bool) (r : zRow) (f : Nat → Int32) (w : Int64) (R : zRow), n + 1 ≤ q + d → q ≤ n → zPV r o → (b = true → zFst r) → mfo f0 f → f 14 = f0 14 → f 13 = nI n → f 19 = nI o → f 20 = (if b = true then 1 else 0) → f 21 = 0 → mtk f w c n q → zcg r R → (∀ e, pTx c n d b r o q = .inl e → ∀ f w R, mfo f0 f → f 21 = 1 → f 14 = nI e → wX12_load_62 ln Q 455 (zmr σ f w R)) → (∀ r', pTx c n d b r o q = .inr r' → ∀ f w R, mfo f0 f → f 21 = 0 → f 14 = f0 14 → zcg r' R → wX12_load_62 ln Q 455 (zmr σ f w R)) → wX12_load_41 ln Q (d + 1) 455 (zmr σ f w R)
  | 0, q, o, b, r, f, w, R, hd, hqn, V, hfs, hf, h14, h13, h19, h20, h21, t, hr, hE, hO => absurd hd (by omega)
  | d + 1, q, o, b, r, f, w, R, hd, hqn, V, hfs, hf, h14, h13, h19, h20, h21, t, hr, hE, hO => by
    have hn := T.1
    rw [pTx] at hE hO
    rw [wX12_load_41, gi_zmr_f, t.1]
    refine ⟨fun _ => ⟨fun h0 => hO r (by rw [if_pos h0]) f w R hf h21 h14 hr, fun h0 => ?_⟩, fun h => absurd h21 h⟩
    rw [if_neg h0] at hE hO
    refine m_stmt T g2 l2 V hf h14 h13 h19 h20 h21 t hr ⟨fun e he f' w' R' m' b21 b14 => ?_, fun r' o' q' he f' w' R' m' b14 b19 b20 b21 t' hr' => ?_⟩
    · rw [he] at hE
      rw [wX12_load_41, gi_zmr_f, b21]
      exact ⟨fun h => absurd h (by decide), fun _ => hE e rfl _ _ _ m' b21 b14⟩
    · rw [he] at hE hO
      obtain ⟨a1, a2, a3⟩ := pStmt_ok V hfs he
      have hE2 := tE_le (c := c) (n := n) (q := q') (by rw [a3]; decide)
      have g3 := tE_q (c := c) (n := n) q'
      have b13 : f' 13 = nI n := by rw [m' 13 (by decide), ← hf 13 (by decide)]; exact h13
      exact m_load41 T g2 l2 d (tE c n q') o' false r' f' w' R' (by omega) hE2.1 a1 (fun h => nomatch h) m' b14 b13 b19 b20 b21 t' hr' hE hO
end ZMLOAD
/-- a row is set to that of the empty text -/
theorem m_defaults {ln : Nat → Nat} {σ : zS} {a : Nat} (la : ln a = 4763) {Q : zS → Prop} (hq : ∀ g : zRow, zcg r00 g → Q (sI σ a g)) : wX12_defaults ln σ a Q := by
  have key : ∀ (d k : Nat) (g : zRow), k + d = 4763 → (∀ j, j < k → g j = 0) → wX12_defaults_2 ln Q (d + 1) a (nI k) (sI σ a g) := by
    intro d
    induction d with
    | zero =>
      intro k g hk hg
      obtain rfl : k = 4763 := by omega
      have hc : (4763 : Int32) ≤ nI 4763 := nI_le (a := 4763) (Nat.le_refl _) (by decide)
      rw [wX12_defaults_2]
      simp only [la, si_sI, vq0, vq1, vq2, vq3, vq4, vq6, vq23, vq24, cq0, cq1, cq2, cq3, cq4, cq6, cq23, cq24, forall_eq, true_and]
      refine ⟨fun _ => hq _ (fun j hj => ?_), fun h => absurd hc h⟩
      by_cases e24 : j = 24
      · subst e24; rfl
      by_cases e23 : j = 23
      · subst e23; rfl
      by_cases e6 : j = 6
      · subst e6; rfl
      by_cases e4 : j = 4
      · subst e4; rfl
      by_cases e3 : j = 3
      · subst e3; rfl
      by_cases e2 : j = 2
      · subst e2; rfl
      by_cases e1 : j = 1
      · subst e1; rfl
      by_cases e0 : j = 0
      · subst e0; rfl
      rw [zu_ne e24, zu_ne e23, zu_ne e6, zu_ne e4, zu_ne e3, zu_ne e2, zu_ne e1, zu_ne e0, hg j hj, r00_z ⟨e0, e1, e2, e3, e4, e6, e23, e24⟩]
    | succ d ih =>
      intro k g hk hg
      have hc : ¬ (4763 : Int32) ≤ nI k := nI_ge (b := 4763) (by omega) (by decide)
      rw [wX12_defaults_2]
      refine ⟨fun h => absurd h hc, fun _ => ?_⟩
      rw [la]
      refine ⟨vp_in_nI (by omega) (by omega), fun σ18 e18 x19 e19 => ?_⟩
      rw [nI_clamp (by omega), si_sI] at e18
      rw [nI_1] at e19
      subst e18 e19
      refine ih (k + 1) _ (by omega) (fun j hj => ?_)
      by_cases e : j = k
      · subst e; exact zu_self _ _ _
      · rw [zu_ne e]; exact hg j (by omega)
  refine ⟨4763 + 1, ?_⟩
  have h := key 4763 0 (gi σ a) (by omega) (fun j hj => absurd hj (Nat.not_lt_zero j))
  rw [sI_self] at h
  exact h
