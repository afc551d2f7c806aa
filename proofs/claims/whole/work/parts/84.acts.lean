/-! ACTIONS: what all of them do; rates, wheels, the limit -/
/-- the class has kept its state and gone on to r2 -/
def zMid (S : zSp) (σ : zS) (p m : Nat) (h : Nat → Nat → Int32) (r2 : Nat → Int32) (σ2 : zS) : Prop :=
  (∃ s1, s1 < 10 ∧ zHs σ2 p s1 (if m = 10 then 10 else m + 1) (hpush m h (gi σ 456))) ∧ zCap σ2 ∧ gr σ2 261 0 = some p ∧ KM σ2 261 r2 ∧ (∀ a j, ¬ (zIsM a ∧ j = 0) → gr σ2 a j = gr σ a j) ∧ ∀ a, ¬ (zB16 261 a ∨ zBh a) → gi σ2 a = gi σ a ∧ gl σ2 a = gl σ a
theorem zST_e {g g' : Nat → Nat → Option Nat} {ln : Nat → Nat} (h : zST g ln) (e : ∀ a j, ¬ (zIsM a ∧ j = 0) → g' a j = g a j) : zST g' ln := by
  have n : ∀ a, a < 261 ∨ 455 ≤ a ∨ a = 293 ∨ a = 294 → ∀ j, g' a j = g a j := fun a ha j => e a j (fun x => by
    rcases x.1 with y | y | ⟨v, hv, y⟩ <;> omega)
  obtain ⟨⟨a1, a2, a3, a4, a5, a6⟩, ⟨b1, b2, b3⟩, c, ⟨d1, d2, d3⟩, em, ⟨f1, f2⟩, ⟨⟨g1, g2, g3, g4, g5, g6, g7, g8⟩, gl⟩⟩ := h
  have ps : ∀ p, p = 7 ∨ p = 134 → zPs g ln p → zPs g' ln p := by
    intro p hp hh
    obtain ⟨⟨x1, x2, x3⟩, ⟨y1, y2⟩, ⟨z1, z2, z3, z4⟩, w⟩ := hh
    refine ⟨⟨by rw [n _ (by omega)]; exact x1, by rw [n _ (by omega)]; exact x2, x3⟩, ⟨by rw [n _ (by omega)]; exact y1, by rw [n _ (by omega)]; exact y2⟩, ⟨by rw [n _ (by omega)]; exact z1, by rw [n _ (by omega)]; exact z2, z3, z4⟩, fun q hq k hk => ?_⟩
    obtain ⟨w1, w2, w3, w4, w5, w6⟩ := w q hq k hk
    exact ⟨by rw [n _ (by omega)]; exact w1, by rw [n _ (by omega)]; exact w2, by rw [n _ (by omega)]; exact w3, by rw [n _ (by omega)]; exact w4, by rw [n _ (by omega)]; exact w5, w6⟩
  refine ⟨⟨by rw [n _ (by omega)]; exact a1, by rw [n _ (by omega)]; exact a2, by rw [n _ (by omega)]; exact a3, by rw [n _ (by omega)]; exact a4, by rw [n _ (by omega)]; exact a5, by rw [n _ (by omega)]; exact a6⟩, ⟨by rw [n _ (by omega)]; exact b1, by rw [n _ (by omega)]; exact b2, by rw [n _ (by omega)]; exact b3⟩, c, ⟨by rw [n _ (by omega)]; exact d1, fun i hi => by rw [n _ (by omega)]; exact d2 i hi, d3⟩, fun b hb => ?_, ⟨ps 7 (Or.inl rfl) f1, ps 134 (Or.inr rfl) f2⟩, ⟨⟨by rw [n _ (by omega)]; exact g1, by rw [n _ (by omega)]; exact g2, by rw [n _ (by omega)]; exact g3, by rw [n _ (by omega)]; exact g4, by rw [n _ (by omega)]; exact g5, by rw [n _ (by omega)]; exact g6, by rw [n _ (by omega)]; exact g7, by rw [n _ (by omega)]; exact g8⟩, gl⟩⟩
  obtain ⟨⟨m1, m2, m3, m4, m5, m6⟩, ⟨k1, k2, k3, k4, k5, k6, k7, k8, k9⟩, l⟩ := em b hb
  have nb : ∀ i j, i = 0 ∧ 11 ≤ j ∨ 1 ≤ i ∧ i < 16 → g' (b + i) j = g (b + i) j := fun i j hij => e _ j (fun x => by
    rcases hb with rfl | rfl | ⟨u, hu, rfl⟩ <;> rcases x.1 with y | y | ⟨v, hv, y⟩ <;> omega)
  have n0 : ∀ j, 11 ≤ j → g' b j = g b j := fun j hj => nb 0 j (Or.inl ⟨rfl, hj⟩)
  exact ⟨⟨by rw [n0 _ (by decide)]; exact m1, by rw [n0 _ (by decide)]; exact m2, by rw [n0 _ (by decide)]; exact m3, by rw [n0 _ (by decide)]; exact m4, by rw [n0 _ (by decide)]; exact m5, by rw [n0 _ (by decide)]; exact m6⟩, ⟨by rw [nb 1 _ (by omega)]; exact k1, by rw [nb 4 _ (by omega)]; exact k2, by rw [nb 2 _ (by omega)]; exact k3, by rw [nb 5 _ (by omega)]; exact k4, by rw [nb 7 _ (by omega)]; exact k5, by rw [nb 8 _ (by omega)]; exact k6, by rw [nb 10 _ (by omega)]; exact k7, by rw [nb 12 _ (by omega)]; exact k8, by rw [nb 14 _ (by omega)]; exact k9⟩, l⟩
theorem zPl_cr {σ σ' : zS} {ln : Nat → Nat} {p : Nat} {r : Nat → Int32} (hp : p + 127 ≤ 261) (h : zPl σ ln p r) (eg : ∀ a j, a < 261 → gr σ' a j = gr σ a j) (g : ∀ a, a < 261 → gi σ' a = gi σ a) : zPl σ' ln p r := by
  obtain ⟨⟨a1, a2, a3, a4⟩, ⟨b1, b1'⟩, ⟨c1, c2⟩, ⟨d1, d2, d3⟩, e1⟩ := h
  unfold zPl
  rw [g p (by omega), g (p + 3) (by omega), g (p + 65) (by omega), eg p _ (by omega), eg p _ (by omega), eg (p + 3) _ (by omega), eg (p + 65) _ (by omega)]
  refine ⟨⟨a1, a2, a3, a4⟩, ⟨b1, b1'⟩, ⟨c1, c2⟩, ⟨d1, d2, d3⟩, fun q hq k hk => ⟨?_, fun hk2 => ?_⟩⟩
  · rw [eg _ _ (by omega), eg _ _ (by omega), eg _ _ (by omega)]
    exact (e1 q hq k hk).1
  · rw [g _ (by omega), g _ (by omega)]
    exact (e1 q hq k hk).2 hk2
theorem hpush_inv {m : Nat} {h : Nat → Nat → Int32} {r : Nat → Int32} {T : (Nat → Int32) → Prop} (hm : m ≤ 10) (hh : ∀ i, i < m → T (h i)) (hr : T r) : ∀ i, i < (if m = 10 then 10 else m + 1) → T (hpush m h r i) := by
  intro i hi
  show T (if m = 10 then (if i < 9 then h (i + 1) else r) else if i < m then h i else r)
  by_cases h10 : m = 10
  · rw [if_pos h10] at hi ⊢
    split
    · exact hh _ (by omega)
    · exact hr
  · rw [if_neg h10] at hi ⊢
    split
    · exact hh _ (by assumption)
    · exact hr
/-- the end of an action -/
theorem act_fin {S : zSp} {σ : zS} {N N' p p' s m : Nat} {h : Nat → Nat → Int32} (W : zWp S σ N p p' s m h) {K : Int32 → Int32 → zS → Prop} (hK : zEnd S N' K) {r2 : Nat → Int32} {σ2 σ4 σ5 : zS} {v : Int64} {b : Int32} (M : zMid S σ p m h r2 σ2) (R : zMr (si (sl σ2 463 0 v) 455 0 0) σ4) (F : zMf σ4 σ5) (rec : zRec σ4 (if m = 10 then 10 else m + 1) (hpush m h (gi σ 456))) (row : gi σ5 456 = r2) (E : zEv r2 N') (hN : N ≤ N') (T : (r2 5).toInt ≤ 100000) (kp : zkp (gi σ 456) r2) (hb : v = b.toInt64) : K 0 b σ5 := by
  obtain ⟨⟨s1, hs1, hHs⟩, hcap, hgm, hKM, hgr, hgi⟩ := M
  have W0 := W
  obtain ⟨w1, w2, ⟨w3, w3'⟩, ⟨w4, w4', w4''⟩, w5, ⟨w6, w6', w6h, w6r, w6''⟩, ⟨n, i1, i2, i3, i4⟩, w8, ⟨a, c, q1, q2, q3, q4, q5, q6, q7, q8, q9, q10, q11, q12⟩⟩ := W
  have g5 : gr σ5 = gr σ2 := F.r.trans R.r
  have l5 : ∀ a, a ≠ 463 → gl σ5 a = gl σ2 a := fun a ha => by
    rw [F.l, R.l]
    show gl (sl σ2 463 0 v) a = _
    funext j
    rw [gl_sl, if_neg ha]
  have i5 : ∀ a, a ≠ 455 → a ≠ 456 → a ≠ 459 → a ≠ 460 → gi σ5 a = gi σ2 a := fun a x1 x2 x3 x4 => by
    rw [F.2.1 a x2 x4 x1, R.2.1 a x3 x1, si_out _ _ x1]
    rfl
  have j5 : ∀ j, j ≠ 0 → j ≠ 5 → j ≠ 7 → j ≠ 9 → gi σ5 455 j = gi σ2 455 j := fun j x1 x2 x3 x4 => by
    rw [F.2.2 j x3 x4, R.2.2 j x2, si_at, zu_ne x1]
    rfl
  have o : ∀ a, ¬ (261 ≤ a ∧ a < 277) → ¬ (293 ≤ a ∧ a < 455) → gi σ2 a = gi σ a ∧ gl σ2 a = gl σ a := fun a x1 x2 => hgi a (fun x => x.elim (fun y => x1 ⟨y.1, by have := y.2; omega⟩) x2)
  have e455 : gi σ2 455 = gi σ 455 := (o 455 (by omega) (by omega)).1
  have hp : p + 127 ≤ 261 := W0.pb
  have hgr2 : ∀ a j, a < 261 → gr σ5 a j = gr σ a j := fun a j ha => by
    rw [g5]
    exact hgr a j (fun x => by have := zIsM_b x.1; omega)
  have pl5 : zPl σ5 (zSl S) p r2 := (zPl_cr hp w3 hgr2 (fun a ha => by rw [i5 a (by omega) (by omega) (by omega) (by omega)]; exact (o a (by omega) (by omega)).1)).c kp W0.w
  refine hK _ _ _ ⟨p, p', s1, (if m = 10 then 10 else m + 1), hpush m h (gi σ 456), ?_⟩ ?_ (fun _ => ?_)
  · unfold zWp
    rw [row]
    refine ⟨by rw [g5]; exact zST_e w1 hgr, ⟨w2.1, by rw [hgr2 _ _ (by omega)]; exact w2.2.1, by rw [hgr2 _ _ (by omega)]; exact w2.2.2.1, by rw [g5]; exact hgm⟩, ⟨pl5, fun q hq k hk hk2 => ?_⟩, ⟨KM_o hKM (fun a x1 x2 => ⟨i5 a (by omega) (by omega) (by omega) (by omega), l5 a (by omega)⟩), E, T⟩, fun b hb => ?_, ⟨by split <;> omega, hs1, ⟨?_, ?_, fun i hi => ?_⟩, ⟨?_, fun i hi k hk => ?_⟩, ?_⟩, ⟨n, i1, ?_, ?_, fun k hk => ?_⟩, ?_, ⟨a, c, ?_, q2, q3, q4, q5, ?_, ?_, ?_, q9, q10, fun k hk => ?_, fun k hk => ?_⟩⟩
    · rw [kp (25 + q) (by omega)] at hk2
      rw [kp (219 + 12 * q + k) (by omega), i5 _ (by omega) (by omega) (by omega) (by omega), (o _ (by omega) (by omega)).1]
      exact w3' q hq k hk hk2
    · have hb2 := zIsM_b hb
      rw [i5 _ (by omega) (by omega) (by omega) (by omega), i5 _ (by omega) (by omega) (by omega) (by omega)]
      exact hcap b hb
    · rw [i5 _ (by omega) (by omega) (by omega) (by omega)]; exact hHs.1
    · rw [i5 _ (by omega) (by omega) (by omega) (by omega)]; exact hHs.2.1
    · have hb := hslot_b s1 i
      rw [g5]
      exact ⟨(hHs.2.2 i hi).1, KM_o (hHs.2.2 i hi).2 (fun a x1 x2 => ⟨i5 a (by omega) (by omega) (by omega) (by omega), l5 a (by omega)⟩)⟩
    · rw [F.2.2 5 (by decide) (by decide)]; exact rec.1
    · rw [F.2.1 459 (by decide) (by decide) (by decide)]; exact rec.2 i hi k hk
    · have key : ∀ x : Nat → Int32, zEv x N ∧ zkp (gi σ 456) x ∧ (x 5).toInt ≤ 100000 → zEv x N' ∧ zkp r2 x ∧ (x 5).toInt ≤ 100000 := fun x hx => ⟨zEv_mono hx.1 hN, fun k hk => (hx.2.1 k hk).trans (kp k hk).symm, hx.2.2⟩
      exact hpush_inv (T := fun x => zEv x N' ∧ zkp r2 x ∧ (x 5).toInt ≤ 100000) w6 (fun i hi => key _ (w6'' i hi)) (key _ ⟨w4', fun _ _ => rfl, w4''⟩)
    · rw [i5 _ (by omega) (by omega) (by omega) (by omega), (o _ (by omega) (by omega)).1]; exact i2
    · rw [j5 13 (by decide) (by decide) (by decide) (by decide), e455]; exact i3
    · rw [i5 _ (by omega) (by omega) (by omega) (by omega), i5 _ (by omega) (by omega) (by omega) (by omega), (o _ (by omega) (by omega)).1, (o _ (by omega) (by omega)).1]; exact i4 k hk
    · rw [i5 _ (by omega) (by omega) (by omega) (by omega), (o _ (by omega) (by omega)).1, j5 14 (by decide) (by decide) (by decide) (by decide), e455]; exact w8
    · rw [hgr2 _ _ (by omega)]; exact q1
    · rw [i5 _ (by omega) (by omega) (by omega) (by omega), (o _ (by omega) (by omega)).1]; exact q6
    · rw [i5 _ (by omega) (by omega) (by omega) (by omega), (o _ (by omega) (by omega)).1]; exact q7
    · rw [j5 11 (by decide) (by decide) (by decide) (by decide), e455]; exact q8
    · rw [i5 _ (by omega) (by omega) (by omega) (by omega), i5 _ (by omega) (by omega) (by omega) (by omega), (o _ (by omega) (by omega)).1, (o _ (by omega) (by omega)).1]; exact q11 k hk
    · rw [i5 _ (by omega) (by omega) (by omega) (by omega), (o _ (by omega) (by omega)).1]; exact q12 k hk
  · rw [F.2.2 0 (by decide) (by decide), R.2.2 0 (by decide)]
    exact gi_t _ _
  · rw [F.l, R.l, gl_o, hb]
section ZACT
variable {S : zSp} {σ σ2 : zS} {N p p' s m : Nat} {h : Nat → Nat → Int32} {r2 : Nat → Int32}
theorem zWp.x14 (W : zWp S σ N p p' s m h) : gi σ 456 14 = 0 ∨ gi σ 456 14 = 1 := W.x.2.2.2.1
/-- the class keeps its state -/
theorem act_keep (W : zWp S σ N p p' s m h) {Q : zS → Prop} (hq : ∀ σ1, zMid S σ p m h (gi σ 456) σ1 → zFm zBh σ σ1 → Q σ1) : wX1_keep (zSl S) σ 293 261 Q := by
  have W0 := W
  obtain ⟨w1, w2, w3, ⟨w4, w4', w4''⟩, w5, ⟨w6, w6', w6h, w6r, w6''⟩, w7⟩ := W
  refine C_keep w1.2.2.2.1 w1.2.2.2.2.1 w5 W0.gm w4 W0.w W0.x14 w6 w6' w6h (fun σ' s' hs' hH hc hF hg => hq σ' ⟨⟨s', hs', hH⟩, hc, hg, KM_o w4 (fun a x1 x2 => hF.2.2 a (fun y => by have := y.1; omega)), hF.1, fun a ha => hF.2.2 a (fun y => ha (Or.inr y))⟩ hF)
/-- the class goes on from there -/
theorem zMid.go {r1 r2 : Nat → Int32} {σ1 σ2 : zS} (M : zMid S σ p m h r1 σ1) (F : zFr (zB16 261) σ1 σ2) (K : KM σ2 261 r2) : zMid S σ p m h r2 σ2 := by
  obtain ⟨⟨s1, hs1, hHs⟩, hcap, hgm, hKM, hgr, hgi⟩ := M
  have i : ∀ a, ¬ (261 ≤ a ∧ a < 277) → gi σ2 a = gi σ1 a ∧ gl σ2 a = gl σ1 a := fun a ha => F.2.2 a (fun x => ha ⟨x.1, by have := x.2; omega⟩)
  refine ⟨⟨s1, hs1, ?_, ?_, fun k hk => ?_⟩, fun b hb => ?_, by rw [F.1]; exact hgm, K, fun a j ha => by rw [F.1]; exact hgr a j ha, fun a ha => ?_⟩
  · rw [(i _ (by omega)).1]; exact hHs.1
  · rw [(i _ (by omega)).1]; exact hHs.2.1
  · have hb := hslot_b s1 k
    rw [F.1]
    exact ⟨(hHs.2.2 k hk).1, KM_o (hHs.2.2 k hk).2 (fun a x1 x2 => i a (by omega))⟩
  · by_cases e : b = 261
    · subst e; exact KM_cap K
    · have : 277 ≤ b := by
        rcases hb with rfl | rfl | ⟨u, hu, rfl⟩
        · exact absurd rfl e
        · omega
        · omega
      rw [(i _ (by omega)).1, (i _ (by omega)).1]
      exact hcap b hb
  · have h1 : ¬ zB16 261 a := fun x => ha (Or.inl x)
    exact ⟨(F.2.2 a h1).1.trans (hgi a ha).1, (F.2.2 a h1).2.trans (hgi a ha).2⟩
theorem zMid.st (M : zMid S σ p m h r2 σ2) (W : zWp S σ N p p' s m h) : zST (gr σ2) (zSl S) := zST_e W.1 M.2.2.2.2.1
theorem zMid.i (M : zMid S σ p m h r2 σ2) {a : Nat} (h1 : a < 261 ∨ (277 ≤ a ∧ a < 293) ∨ 455 ≤ a) : gi σ2 a = gi σ a := (M.2.2.2.2.2 a (fun x => x.elim (fun y => by have := y.1; have := y.2; omega) (fun y => by have := y.1; have := y.2; omega))).1
theorem zMid.g (M : zMid S σ p m h r2 σ2) {a j : Nat} (h1 : a < 261 ∨ 455 ≤ a) : gr σ2 a j = gr σ a j := M.2.2.2.2.1 a j (fun x => by have := zIsM_b x.1; omega)
theorem zMid.km (M : zMid S σ p m h r2 σ2) : KM σ2 261 r2 := M.2.2.2.1
/-- the model keeps its row -/
theorem act_rec (W : zWp S σ N p p' s m h) (M : zMid S σ p m h r2 σ2) {v : Int64} {Q : zS → Prop} (hq : ∀ σ4, zMr (si (sl σ2 463 0 v) 455 0 0) σ4 → zRec σ4 (if m = 10 then 10 else m + 1) (hpush m h (gi σ 456)) → gi σ4 456 = gi σ 456 → zMg (gr σ4) (zSl S) → Q σ4) : wX12_records (zSl S) (si (sl σ2 463 0 v) 455 0 0) 455 Q := by
  have G : zMg (gr (si (sl σ2 463 0 v) 455 0 0)) (zSl S) := (M.st W).2.2.2.2.2.2
  have e456 : gi (si (sl σ2 463 0 v) 455 0 0) 456 = gi σ 456 := by rw [row_t]; exact M.i (by omega)
  have H : zRec (si (sl σ2 463 0 v) 455 0 0) m h := by
    obtain ⟨r1, r3⟩ := W.2.2.2.2.2.1.2.2.2.1
    refine ⟨?_, fun i hi k hk => ?_⟩
    · rw [si_at, zu_ne (by decide)]
      show gi σ2 455 5 = _
      rw [M.i (by omega)]; exact r1
    · rw [si_out _ _ (by decide)]
      show gi σ2 459 _ = _
      rw [M.i (by omega)]; exact r3 i hi k hk
  refine M_records G W.2.2.2.2.2.1.1 H (fun σ4 h4 R => ?_)
  rw [e456] at h4
  exact hq σ4 R h4 ((R.2.1 456 (by decide) (by decide)).trans e456) (by rw [R.r]; exact G)
end ZACT
theorem zMf_i (σ : zS) (k : Nat) (v : Int32) : zMf σ (si σ 456 k v) := ⟨rfl, fun a h1 _ _ => si_out _ _ h1, fun j _ _ => by rw [si_out _ _ (by decide)]⟩
theorem KM_si {σ : zS} {b : Nat} {r : Nat → Int32} {k j : Nat} {v : Int32} (hk : k < 16) (h : RR (zf (fun k => gi σ (b + k)) k j v) (gl σ (b + 1) 6) (gl σ (b + 4) 6) r) : KM (si σ (b + k) j v) b r ∧ zFr (zB16 b) σ (si σ (b + k) j v) := by
  have e : si σ (b + k) j v = zcs σ b (zf (fun k => gi σ (b + k)) k j v) (gl σ (b + 1) 6) (gl σ (b + 4) 6) := by
    rw [← si_zcs_k σ b _ _ _ hk, zcs_self]
  rw [e]
  exact ⟨KM_zcs h, zFr_zcs σ b _ _ _⟩
theorem c_range {ln : Nat → Nat} {σ : zS} {v lo hi : Int32} {Q : zS → Prop} {X : String → zS → Prop} (h1 : lo.toInt ≤ v.toInt ∧ v.toInt ≤ hi.toInt → Q σ) (h0 : ¬ (lo.toInt ≤ v.toInt ∧ v.toInt ≤ hi.toInt) → X "java/lang/IllegalArgumentException" σ) : wxX11_requireRange ln σ v lo hi Q X := by
  unfold wxX11_requireRange wxX11_requireRange_10
  refine ⟨fun h => h0 (fun e => ?_), fun h => ⟨fun h2 => h1 ?_, fun h2 => h0 (fun e => ?_)⟩⟩
  · rw [nlt] at h; omega
  · rw [nlt] at h; rw [nle] at h2; omega
  · rw [nle] at h2; omega
theorem iae_ne : ¬ ("java/lang/IllegalArgumentException" = "java/lang/IndexOutOfBoundsException") := by decide
theorem ise_ne : ¬ ("java/lang/IllegalStateException" = "java/lang/IndexOutOfBoundsException") := by decide
theorem ise_ne2 : ¬ ("java/lang/IllegalStateException" = "java/lang/IllegalArgumentException") := by decide
/-- invariants of a row in which one number was set -/
theorem zEv_set {r : Nat → Int32} {N : Nat} (h : zEv r N) {k : Nat} {v : Int32} (hk : k = 2 ∨ (21 ≤ k ∧ k ≤ 24)) (hW : zW (zu r k v)) : zEv (zu r k v) N ∧ zkp r (zu r k v) ∧ zu r k v 5 = r 5 := by
  have e5 : zu r k v 5 = r 5 := zu_ne (by omega)
  have e1 : zu r k v 1 = r 1 := zu_ne (by omega)
  have kp : zkp r (zu r k v) := zkp_zu (fun _ _ => rfl) (nsk (by omega)) _
  have hn : nU r ≤ 600 := by
    have hu := h.1.u
    have := ncl hu.1
    unfold nU
    omega
  have ze : zTe r (zu r k v) := ⟨zu_ne (by omega), fun j hj => zu_ne (by omega), e5, e1, fun x => by rw [zu_ne (by omega)] at x; exact x⟩
  refine ⟨⟨hW, ?_, ?_, by rw [ze.B hn]; exact h.2.2.2⟩, kp, e5⟩
  · rw [e5]
    exact zx_c (fun j hj => zu_ne (by omega)) kp h.1 h.2.1
  · rw [e5, e1]
    exact ze.T hn h.2.2.1
theorem L_setCorrection {S : zSp} {σ : zS} {N : Nat} (W : zWd S σ N) {v : Int32} {K : Int32 → Int32 → zS → Prop} (hK : zEnd S N K) : wL_setCorrection (zSl S) σ 0 v 463 (fun r5 σ4 => wX12_setCorrection (zSl S) σ4 455 v (fun r10 σ9 => K r5 r10 σ9)) := by
  obtain ⟨p, p', s, m, h, W⟩ := W
  have S1 := W.sm
  obtain ⟨⟨m1, m2, m3, m4, m5, m6⟩, ⟨a1, a2, a3, a4, a5, a6, a7, a8, a9⟩, ⟨l1, l2, l3, l4, l5, l6⟩⟩ := S1
  have K1 := W.km
  have X1 := W.x
  have OUT : ∀ (σ0 : zS) (r : Int32), wX12_setCorrection (zSl S) (sl σ0 463 0 r.toInt64) 455 v (fun r10 σ9 => K 0 r10 σ9) → ∀ x6 : Int64, x6 = r.toInt64 → vp_in (0 : Int32) (zSl S 463) ∧ ∀ σ8 : zS, σ8 = sl σ0 463 (0 : Int32).toNatClampNeg x6 → wX12_setCorrection (zSl S) σ8 455 v (fun r10 σ9 => K 0 r10 σ9) := fun σ0 r hq => c_out (σ := σ0) W.l463 (Q := fun r5 σ4 => wX12_setCorrection (zSl S) σ4 455 v (fun r10 σ9 => K r5 r10 σ9)) hq
  have u0 : (0 : Int64).toInt = 0 := rfl
  have u5 : (500 : Int64).toInt = 500 := rfl
  unfold wL_setCorrection wxX11_setCorrection
  refine c_range (fun hr => ⟨293, W.1.1.2.2.2.2.2, 261, W.g3, ?_⟩) (fun hr => ⟨rfl, ?_⟩)
  · have hr : 0 ≤ v.toInt ∧ v.toInt ≤ 500 := hr
    refine act_keep W (fun σ1 M F => ?_)
    have g3 : gr σ1 0 3 = some 261 := by rw [M.g (by omega)]; exact W.g3
    have e2 : gi σ1 261 2 = gi σ 456 2 := M.km.1.2.1
    refine ⟨261, g3, fun x7 e7 => ⟨261, g3, fun σ9 e9 => ?_⟩⟩
    rw [e2] at e7
    subst e7 e9
    obtain ⟨k1, k2⟩ := KM_si (σ := σ1) (b := 261) (k := 0) (j := 2) (v := v) (by decide) (RRs_2 M.km v)
    have M2 := M.go k2 k1
    have hE := zEv_set W.ev (k := 2) (v := v) (Or.inl rfl) (zW_u2 W.w hr)
    refine OUT _ _ ?_
    intro σ3 e3 x2 e4
    subst e3 e4
    refine n_isIn (fun _ => ⟨fun h => absurd h (by decide), fun _ => ?_⟩) (fun hh => absurd (by rw [t64, u0, u5]; exact hr) hh)
    refine act_rec W M2 (fun σ4 R hrec r4 G4 => ⟨456, G4.1.1, W.v vq2, fun x8 e8 => ⟨456, G4.1.1, W.v vq2, fun σ11 e11 => ?_⟩⟩)
    rw [cq2, r4] at e8
    rw [cq2] at e11
    subst e8 e11
    exact act_fin W hK M2 R (zMf_i _ _ _) hrec (by rw [si_at, r4]) hE.1 (Nat.le_refl _) (by rw [hE.2.2]; exact W.2.2.2.1.2.2) hE.2.1 rfl
  · intro σ1 e1 x2 e2
    subst e1 e2
    refine n_isIn (fun hh => absurd ?_ hr) (fun _ => ⟨fun _ => n_raise (W.thr (fun k b σ' w t g => hK k b σ' w t g) (by decide)), fun h => absurd rfl h⟩)
    rw [t64, u0, u5] at hh
    exact hh
theorem L_setRate {S : zSp} {σ : zS} {N : Nat} (W : zWd S σ N) {v w : Int32} {K : Int32 → Int32 → zS → Prop} (hK : zEnd S N K) : wL_setRate (zSl S) σ 0 v w 463 (fun r5 σ4 => wX12_setRate (zSl S) σ4 455 v w (fun r10 σ9 => K r5 r10 σ9)) := by
  obtain ⟨p, p', s, m, h, W⟩ := W
  have S1 := W.sm
  obtain ⟨⟨m1, m2, m3, m4, m5, m6⟩, ⟨a1, a2, a3, a4, a5, a6, a7, a8, a9⟩, ⟨l1, l2, l3, l4, l5, l6⟩⟩ := S1
  have K1 := W.km
  have X1 := W.x
  have OUT : ∀ (σ0 : zS) (r : Int32), wX12_setRate (zSl S) (sl σ0 463 0 r.toInt64) 455 v w (fun r10 σ9 => K 0 r10 σ9) → ∀ x6 : Int64, x6 = r.toInt64 → vp_in (0 : Int32) (zSl S 463) ∧ ∀ σ8 : zS, σ8 = sl σ0 463 (0 : Int32).toNatClampNeg x6 → wX12_setRate (zSl S) σ8 455 v w (fun r10 σ9 => K 0 r10 σ9) := fun σ0 r hq => c_out (σ := σ0) W.l463 (Q := fun r5 σ4 => wX12_setRate (zSl S) σ4 455 v w (fun r10 σ9 => K r5 r10 σ9)) hq
  have u0 : (10 : Int64).toInt = 10 := rfl
  have u5 : (999 : Int64).toInt = 999 := rfl
  have thr1 : ¬ (v = 0 ∨ v = 1) → wX12_setRate (zSl S) σ 455 v w (fun r10 σ9 => K 1 r10 σ9) := by
    intro hv σ1 e1
    subst e1
    exact n_isOffice (fun h => absurd h hv) (fun _ => ⟨fun _ => n_raise (W.thr hK (by decide)), fun h => absurd rfl h⟩)
  have thr2 : (v = 0 ∨ v = 1) → ¬ (10 ≤ w.toInt ∧ w.toInt ≤ 999) → wX12_setRate (zSl S) σ 455 v w (fun r10 σ9 => K 2 r10 σ9) := by
    intro hv hw σ1 e1
    subst e1
    refine n_isOffice (fun _ => ⟨fun h => absurd h (by decide), fun _ x4 e4 => ?_⟩) (fun h => absurd hv h)
    subst e4
    refine n_isIn (fun hh => absurd ?_ hw) (fun _ => ⟨fun _ => n_raise (W.thr hK (by decide)), fun h => absurd rfl h⟩)
    rw [t64, u0, u5] at hh
    exact hh
  have go : ∀ q : Nat, (v = 0 ∧ q = 0 ∨ v = 1 ∧ q = 1) → (10 ≤ w.toInt ∧ w.toInt ≤ 999) → ∀ σ2, zMid S σ p m h (zu (gi σ 456) (23 + q) w) σ2 → wX12_setRate (zSl S) (sl σ2 463 0 (gi σ 456 (23 + q)).toInt64) 455 v w (fun r10 σ9 => K 0 r10 σ9) := by
    intro q hq hw σ2 M2 σ3 e3
    subst e3
    have hW2 : zW (zu (gi σ 456) (23 + q) w) := by
      rcases hq with ⟨_, rfl⟩ | ⟨_, rfl⟩
      · exact zW_u23 W.w hw
      · exact zW_u24 W.w hw
    have hE := zEv_set W.ev (k := 23 + q) (v := w) (by omega) hW2
    refine n_isOffice (fun _ => ⟨fun h => absurd h (by decide), fun _ x4 e4 => ?_⟩) (fun hn => absurd (hq.elim (fun x => Or.inl x.1) (fun x => Or.inr x.1)) hn)
    subst e4
    refine n_isIn (fun _ => ⟨fun h => absurd h (by decide), fun _ => ?_⟩) (fun hh => absurd (by rw [t64, u0, u5]; exact hw) hh)
    refine act_rec W M2 (fun σ4 R hrec r4 G4 => ⟨456, G4.1.1, fun x9 e9 => ?_⟩)
    subst e9
    refine ⟨W.v (oix hq 23 (by decide)).2, fun x11 e11 => ⟨456, G4.1.1, fun x13 e13 => ?_⟩⟩
    rw [show ((23 : Int32) + v).toNatClampNeg = 23 + q from (oix hq 23 (by decide)).1, r4] at e11
    subst e11 e13
    refine ⟨W.v (oix hq 23 (by decide)).2, fun σ15 e15 => ?_⟩
    rw [show ((23 : Int32) + v).toNatClampNeg = 23 + q from (oix hq 23 (by decide)).1] at e15
    subst e15
    exact act_fin W hK M2 R (zMf_i _ _ _) hrec (by rw [si_at, r4]) hE.1 (Nat.le_refl _) (by rw [hE.2.2]; exact W.2.2.2.1.2.2) hE.2.1 rfl
  unfold wL_setRate wxX11_setRate
  refine c_office W.st (fun hv => ?_) (fun hv => ?_) (fun hv => ⟨fun _ => thr1 hv, fun h => absurd rfl h⟩)
  · refine c_range (fun hr => ⟨293, W.1.1.2.2.2.2.2, 261, W.g3, ?_⟩) (fun hr => ⟨fun h => absurd h iae_ne, fun _ => ⟨rfl, thr2 (Or.inl hv) hr⟩⟩)
    refine act_keep W (fun σ1 M F x8 e8 σ9 e9 => ?_)
    have e2 : gi σ1 262 1 = gi σ 456 23 := M.km.2.1.1.2.1
    rw [e2] at e8
    subst e8 e9
    obtain ⟨k1, k2⟩ := KM_si (σ := σ1) (b := 261) (k := 1) (j := 1) (v := w) (by decide) (RRs_23 M.km w)
    exact OUT _ _ (go 0 (Or.inl ⟨hv, rfl⟩) hr _ (M.go k2 k1))
  · refine c_range (fun hr => ⟨293, W.1.1.2.2.2.2.2, 261, W.g3, ?_⟩) (fun hr => ⟨fun h => absurd h iae_ne, fun _ => ⟨rfl, thr2 (Or.inr hv) hr⟩⟩)
    refine act_keep W (fun σ1 M F x8 e8 σ9 e9 => ?_)
    have e2 : gi σ1 265 1 = gi σ 456 24 := M.km.2.1.2.2.1
    rw [e2] at e8
    subst e8 e9
    obtain ⟨k1, k2⟩ := KM_si (σ := σ1) (b := 261) (k := 4) (j := 1) (v := w) (by decide) (RRs_24 M.km w)
    exact OUT _ _ (go 1 (Or.inr ⟨hv, rfl⟩) hr _ (M.go k2 k1))
theorem L_nudge {S : zSp} {σ : zS} {N : Nat} (W : zWd S σ N) {v w : Int32} {K : Int32 → Int32 → zS → Prop} (hK : zEnd S N K) : wL_nudge (zSl S) σ 0 v w 463 (fun r5 σ4 => wX12_nudge (zSl S) σ4 455 v w (fun r10 σ9 => K r5 r10 σ9)) := by
  obtain ⟨p, p', s, m, h, W⟩ := W
  have S1 := W.sm
  obtain ⟨⟨m1, m2, m3, m4, m5, m6⟩, ⟨a1, a2, a3, a4, a5, a6, a7, a8, a9⟩, ⟨l1, l2, l3, l4, l5, l6⟩⟩ := S1
  have K1 := W.km
  have X1 := W.x
  have OUT : ∀ (σ0 : zS) (r : Int32), wX12_nudge (zSl S) (sl σ0 463 0 r.toInt64) 455 v w (fun r10 σ9 => K 0 r10 σ9) → ∀ x6 : Int64, x6 = r.toInt64 → vp_in (0 : Int32) (zSl S 463) ∧ ∀ σ8 : zS, σ8 = sl σ0 463 (0 : Int32).toNatClampNeg x6 → wX12_nudge (zSl S) σ8 455 v w (fun r10 σ9 => K 0 r10 σ9) := fun σ0 r hq => c_out (σ := σ0) W.l463 (Q := fun r5 σ4 => wX12_nudge (zSl S) σ4 455 v w (fun r10 σ9 => K r5 r10 σ9)) hq
  have u0 : (-14000 : Int64).toInt = -14000 := rfl
  have u5 : (14000 : Int64).toInt = 14000 := rfl
  have hN := W.w.N
  have tk : (1000 : Int32).toInt = 1000 := rfl
  have eN : (1000 * gi σ 456 0).toInt = 1000 * (gi σ 456 0).toInt := by rw [nmul (by rw [tk]; omega) (by rw [tk]; omega), tk]
  have thr1 : ¬ (v = 0 ∨ v = 1) → wX12_nudge (zSl S) σ 455 v w (fun r10 σ9 => K 1 r10 σ9) := by
    intro hv σ1 e1
    subst e1
    exact n_isOffice (fun h => absurd h hv) (fun _ => ⟨fun _ => n_raise (W.thr hK (by decide)), fun h => absurd rfl h⟩)
  have thr2 : (v = 0 ∨ v = 1) → ¬ (-14000 ≤ w.toInt ∧ w.toInt ≤ 14000) → wX12_nudge (zSl S) σ 455 v w (fun r10 σ9 => K 2 r10 σ9) := by
    intro hv hw σ1 e1
    subst e1
    refine n_isOffice (fun _ => ⟨fun h => absurd h (by decide), fun _ x4 e4 => ?_⟩) (fun h => absurd hv h)
    subst e4
    refine n_isIn (fun hh => absurd ?_ hw) (fun _ => ⟨fun _ => n_raise (W.thr hK (by decide)), fun h => absurd rfl h⟩)
    rw [t64, u0, u5] at hh
    exact hh
  have go : ∀ q : Nat, (v = 0 ∧ q = 0 ∨ v = 1 ∧ q = 1) → (-14000 ≤ w.toInt ∧ w.toInt ≤ 14000) → ∀ ph : Int32, ph = mI ((gi σ 456 (21 + q)).toInt + w.toInt) (1000 * (gi σ 456 0).toInt) → ∀ σ2, zMid S σ p m h (zu (gi σ 456) (21 + q) ph) σ2 → wX12_nudge (zSl S) (sl σ2 463 0 ph.toInt64) 455 v w (fun r10 σ9 => K 0 r10 σ9) := by
    intro q hq hw ph eph σ2 M2 σ3 e3
    subst e3
    have hph := W.w.ph2 (q := q) (by omega)
    have hpb : 0 ≤ ph.toInt ∧ ph.toInt < 1000 * (gi σ 456 0).toInt := by rw [eph]; exact ⟨mI_lo (by omega) (by omega), mI_hi (by omega) (by omega)⟩
    have hW2 : zW (zu (gi σ 456) (21 + q) ph) := by
      rcases hq with ⟨_, rfl⟩ | ⟨_, rfl⟩
      · exact zW_u21 W.w hpb
      · exact zW_u22 W.w hpb
    have hE := zEv_set W.ev (k := 21 + q) (v := ph) (by omega) hW2
    refine n_isOffice (fun _ => ⟨fun h => absurd h (by decide), fun _ x4 e4 => ?_⟩) (fun hn => absurd (hq.elim (fun x => Or.inl x.1) (fun x => Or.inr x.1)) hn)
    subst e4
    refine n_isIn (fun _ => ⟨fun h => absurd h (by decide), fun _ => ?_⟩) (fun hh => absurd (by rw [t64, u0, u5]; exact hw) hh)
    refine act_rec W M2 (fun σ4 R hrec r4 G4 => ⟨456, G4.1.1, 456, G4.1.1, fun x10 e10 => ?_⟩)
    subst e10
    refine ⟨W.v (oix hq 21 (by decide)).2, fun x12 e12 => ?_⟩
    rw [show ((21 : Int32) + v).toNatClampNeg = 21 + q from (oix hq 21 (by decide)).1, r4] at e12
    have e64 : ((gi σ 456 (21 + q)).toInt64 + w.toInt64).toInt = (gi σ 456 (21 + q)).toInt + w.toInt := by
      rw [Int64.toInt_add, n64, n64]
      exact nbm64 (by omega) (by omega)
    subst e12
    refine M_within G4 (by rw [r4]; exact hN) (by rw [e64]; omega) (fun x15 e15 => ?_)
    rw [e64, r4, ← eph]
    subst e15
    refine ⟨W.v (oix hq 21 (by decide)).2, fun σ17 e17 => ?_⟩
    rw [show ((21 : Int32) + v).toNatClampNeg = 21 + q from (oix hq 21 (by decide)).1] at e17
    subst e17
    refine ⟨456, G4.1.1, fun x19 e19 => ?_⟩
    subst e19
    refine ⟨W.v (oix hq 21 (by decide)).2, ?_⟩
    rw [show ((21 : Int32) + v).toNatClampNeg = 21 + q from (oix hq 21 (by decide)).1]
    have ey : gi (si σ4 456 (21 + q) ph) 456 (21 + q) = ph := by rw [si_at, zu_self]
    rw [ey]
    exact act_fin W hK M2 R (zMf_i _ _ _) hrec (by rw [si_at, r4]) hE.1 (Nat.le_refl _) (by rw [hE.2.2]; exact W.2.2.2.1.2.2) hE.2.1 rfl
  unfold wL_nudge wxX11_nudge
  refine c_office W.st (fun hv => ?_) (fun hv => ?_) (fun hv => ⟨fun _ => thr1 hv, fun h => absurd rfl h⟩)
  · refine c_range (fun hr => ⟨293, W.1.1.2.2.2.2.2, 261, W.g3, ?_⟩) (fun hr => ⟨fun h => absurd h iae_ne, fun _ => ⟨rfl, thr2 (Or.inl hv) hr⟩⟩)
    have hr : -14000 ≤ w.toInt ∧ w.toInt ≤ 14000 := hr
    refine act_keep W (fun σ1 M F => ⟨p, by rw [M.g (by omega)]; exact W.gp, ?_⟩)
    have e2 : gi σ1 262 0 = gi σ 456 21 := M.km.2.1.1.1
    have pn : gi σ1 p 0 = gi σ 456 0 := by rw [M.i (by have := W.pb; omega)]; exact W.pl.1.1
    have hph := W.w.ph2 (q := 0) (by decide)
    have hph' : 0 ≤ (gi σ 456 21).toInt ∧ (gi σ 456 21).toInt < 1000 * (gi σ 456 0).toInt := hph
    unfold wX6_circle
    rw [pn]
    intro x1 e1
    rw [e2] at e1
    subst e1
    refine wmodulo (by omega) (fun σ4 e4 => ?_)
    rw [nadd (by omega) (by omega), eN] at e4
    subst e4
    obtain ⟨k1, k2⟩ := KM_si (σ := σ1) (b := 261) (k := 1) (j := 0) (v := mI ((gi σ 456 21).toInt + w.toInt) (1000 * (gi σ 456 0).toInt)) (by decide) (RRs_21 M.km _)
    have ey : gi (si σ1 262 0 (mI ((gi σ 456 21).toInt + w.toInt) (1000 * (gi σ 456 0).toInt))) 262 0 = mI ((gi σ 456 21).toInt + w.toInt) (1000 * (gi σ 456 0).toInt) := by rw [si_at, zu_self]
    rw [ey]
    exact OUT _ _ (go 0 (Or.inl ⟨hv, rfl⟩) hr _ rfl _ (M.go k2 k1))
  · refine c_range (fun hr => ⟨293, W.1.1.2.2.2.2.2, 261, W.g3, ?_⟩) (fun hr => ⟨fun h => absurd h iae_ne, fun _ => ⟨rfl, thr2 (Or.inr hv) hr⟩⟩)
    have hr : -14000 ≤ w.toInt ∧ w.toInt ≤ 14000 := hr
    refine act_keep W (fun σ1 M F => ⟨p, by rw [M.g (by omega)]; exact W.gp, ?_⟩)
    have e2 : gi σ1 265 0 = gi σ 456 22 := M.km.2.1.2.1
    have pn : gi σ1 p 0 = gi σ 456 0 := by rw [M.i (by have := W.pb; omega)]; exact W.pl.1.1
    have hph := W.w.ph2 (q := 1) (by decide)
    have hph' : 0 ≤ (gi σ 456 22).toInt ∧ (gi σ 456 22).toInt < 1000 * (gi σ 456 0).toInt := hph
    unfold wX6_circle
    rw [pn]
    intro x1 e1
    rw [e2] at e1
    subst e1
    refine wmodulo (by omega) (fun σ4 e4 => ?_)
    rw [nadd (by omega) (by omega), eN] at e4
    subst e4
    obtain ⟨k1, k2⟩ := KM_si (σ := σ1) (b := 261) (k := 4) (j := 0) (v := mI ((gi σ 456 22).toInt + w.toInt) (1000 * (gi σ 456 0).toInt)) (by decide) (RRs_22 M.km _)
    have ey : gi (si σ1 265 0 (mI ((gi σ 456 22).toInt + w.toInt) (1000 * (gi σ 456 0).toInt))) 265 0 = mI ((gi σ 456 22).toInt + w.toInt) (1000 * (gi σ 456 0).toInt) := by rw [si_at, zu_self]
    rw [ey]
    exact OUT _ _ (go 1 (Or.inr ⟨hv, rfl⟩) hr _ rfl _ (M.go k2 k1))
