/-! THE WORLD between calls -/
def zPs (g : Nat → Nat → Option Nat) (ln : Nat → Nat) (p : Nat) : Prop := (g p 5 = some (p + 1) ∧ g (p + 1) 0 = some (p + 2) ∧ ln (p + 2) = 20) ∧ (g p 6 = some (p + 3) ∧ g p 7 = some (p + 65)) ∧ (g (p + 3) 3 = some (p + 4) ∧ g (p + 65) 3 = some (p + 66) ∧ ln (p + 4) = 12 ∧ ln (p + 66) = 12) ∧ ∀ q, q < 2 → ∀ k, k < 12 → g (p + 4 + 62 * q) k = some (p + 5 + 62 * q + 5 * k) ∧ g (p + 5 + 62 * q + 5 * k) 0 = some (p + 6 + 62 * q + 5 * k) ∧ g (p + 6 + 62 * q + 5 * k) 0 = some (p + 7 + 62 * q + 5 * k) ∧ g (p + 5 + 62 * q + 5 * k) 1 = some (p + 8 + 62 * q + 5 * k) ∧ g (p + 8 + 62 * q + 5 * k) 0 = some (p + 9 + 62 * q + 5 * k) ∧ ln (p + 7 + 62 * q + 5 * k) = 30 ∧ ln (p + 9 + 62 * q + 5 * k) = 62
/-- the references that never change -/
def zST (g : Nat → Nat → Option Nat) (ln : Nat → Nat) : Prop := (g 0 0 = some 1 ∧ g 0 1 = some 3 ∧ g 0 2 = some 5 ∧ g 0 3 = some 261 ∧ g 0 4 = some 277 ∧ g 0 5 = some 293) ∧ (g 1 0 = some 2 ∧ g 3 0 = some 4 ∧ g 4 2 = some 1) ∧ (ln 2 = 600 ∧ ln 463 = 1 ∧ ln 464 = 1) ∧ zHg g ln ∧ (∀ b, zIsM b → zMs g ln b) ∧ (zPs g ln 7 ∧ zPs g ln 134) ∧ zMg g ln
def zCh (σ : zS) (p : Nat) (r : Nat → Int32) : Prop := ∀ q : Nat, q < 2 → ∀ k : Nat, k < 12 → (k : Int) < (r (25 + q)).toInt → gi σ (p + 6 + 62 * q + 5 * k) 1 = r (219 + 12 * q + k)
def zby (c b : Int32) : Prop := (0 ≤ c.toInt ∧ c.toInt < 256) ∧ b.toInt = if c.toInt < 128 then c.toInt else c.toInt - 256
def zIn (σ : zS) : Prop := ∃ n : Nat, n ≤ 600 ∧ gi σ 1 1 = nI n ∧ gi σ 455 13 = nI n ∧ ∀ k, k < n → zby (gi σ 2 k) (gi σ 462 k)
/-- the formatted text -/
def zSB (S : zSp) (σ : zS) : Prop := ∃ a n : Nat, gr σ 5 0 = some a ∧ (zSl S a = 16 ∨ zSl S a = 34 ∨ zSl S a = 70 ∨ zSl S a = 142) ∧ (a = 6 ∨ 465 ≤ a) ∧ a < zSk S ∧ 465 ≤ zSk S ∧ gi σ 5 1 = 0 ∧ gi σ 5 3 = nI n ∧ gi σ 455 11 = nI n ∧ n ≤ 100 ∧ n ≤ zSl S a ∧ (∀ k, k < n → gi σ a k = gi σ 461 k ∧ 0 ≤ (gi σ 461 k).toInt ∧ (gi σ 461 k).toInt < 128) ∧ ∀ k, k < zSl S a → -128 ≤ (gi σ a k).toInt ∧ (gi σ a k).toInt < 128
def zWp (S : zSp) (σ : zS) (N p p' s m : Nat) (h : Nat → Nat → Int32) : Prop :=
  zST (gr σ) (zSl S) ∧ ((p = 7 ∧ p' = 134 ∨ p = 134 ∧ p' = 7) ∧ gr σ 0 6 = some p ∧ gr σ 0 7 = some p' ∧ gr σ 261 0 = some p) ∧
  (zPl σ (zSl S) p (gi σ 456) ∧ zCh σ p (gi σ 456)) ∧ (KM σ 261 (gi σ 456) ∧ zEv (gi σ 456) N ∧ (gi σ 456 5).toInt ≤ 100000) ∧ zCap σ ∧
  (m ≤ 10 ∧ s < 10 ∧ zHs σ p s m h ∧ zRec σ m h ∧ ∀ i, i < m → zEv (h i) N ∧ zkp (gi σ 456) (h i) ∧ (h i 5).toInt ≤ 100000) ∧ zIn σ ∧ gi σ 0 8 = gi σ 455 14 ∧ zSB S σ
def zWd (S : zSp) (σ : zS) (N : Nat) : Prop := ∃ p p' s m h, zWp S σ N p p' s m h
theorem zWd_mono {S : zSp} {σ : zS} {N M : Nat} (h : zWd S σ N) (e : N ≤ M) : zWd S σ M := by
  obtain ⟨p, p', s, m, h, w1, w2, w3, w4, w5, w6, w7⟩ := h
  exact ⟨p, p', s, m, h, w1, w2, w3, ⟨w4.1, zEv_mono w4.2.1 e, w4.2.2⟩, w5, ⟨w6.1, w6.2.1, w6.2.2.1, w6.2.2.2.1, fun i hi => ⟨zEv_mono (w6.2.2.2.2 i hi).1 e, (w6.2.2.2.2 i hi).2⟩⟩, w7⟩
/-- nothing that the world speaks of has changed -/
def zLk (σ σ' : zS) : Prop := gr σ' = gr σ ∧ (∀ a, a < 455 ∨ a = 456 ∨ a = 459 ∨ a = 461 ∨ a = 462 ∨ 465 ≤ a → gi σ' a = gi σ a) ∧ (∀ a, a < 455 → gl σ' a = gl σ a) ∧ ∀ j, j = 5 ∨ j = 11 ∨ j = 13 ∨ j = 14 → gi σ' 455 j = gi σ 455 j
theorem zLk.rf {σ : zS} : zLk σ σ := ⟨rfl, fun _ _ => rfl, fun _ _ => rfl, fun _ _ => rfl⟩
theorem zLk.tr {σ σ' σ'' : zS} (h : zLk σ σ') (g : zLk σ' σ'') : zLk σ σ'' := ⟨g.1.trans h.1, fun a ha => (g.2.1 a ha).trans (h.2.1 a ha), fun a ha => (g.2.2.1 a ha).trans (h.2.2.1 a ha), fun j hj => (g.2.2.2 j hj).trans (h.2.2.2 j hj)⟩
theorem zLk_t {σ : zS} {v : Int32} : zLk σ (si σ 455 0 v) := ⟨rfl, fun a ha => si_out _ _ (by omega), fun _ _ => rfl, fun j hj => by rw [si_at, zu_ne (by omega)]⟩
theorem zLk_o {σ : zS} {v : Int64} : zLk σ (sl σ 463 0 v) := ⟨rfl, fun _ _ => rfl, fun a ha => by
  funext j
  rw [gl_sl, if_neg (by omega)], fun _ _ => rfl⟩
theorem zLk_d {σ : zS} {v : UInt64} : zLk σ (sd σ 464 0 v) := ⟨rfl, fun _ _ => rfl, fun _ _ => rfl, fun _ _ => rfl⟩
theorem zLk_zms {σ : zS} {pf : Nat → Int32} {n far : Int32} : zLk σ (zms σ (gi σ 456) pf n far) := ⟨rfl, fun a ha => by
  by_cases e : a = 456
  · subst e; rfl
  · funext k
    exact gi_zms_a σ _ pf n far e (by omega) (by omega) k, fun _ _ => rfl, fun j hj => by rw [gi_zms, if_neg (by decide), if_neg (by decide), if_pos rfl, if_neg (by omega), if_neg (by omega)]⟩
theorem zPl_ci {σ σ' : zS} {ln : Nat → Nat} {p : Nat} {r : Nat → Int32} (h : zPl σ ln p r) (eg : gr σ' = gr σ) (g : ∀ a, p ≤ a → a < p + 127 → gi σ' a = gi σ a) : zPl σ' ln p r := by
  obtain ⟨⟨a1, a2, a3, a4⟩, b1, ⟨c1, c2⟩, d1, e1⟩ := h
  unfold zPl
  rw [eg, g p (by omega) (by omega), g (p + 3) (by omega) (by omega), g (p + 65) (by omega) (by omega)]
  refine ⟨⟨a1, a2, a3, a4⟩, b1, ⟨c1, c2⟩, d1, fun q hq k hk => ⟨(e1 q hq k hk).1, fun hk2 => ?_⟩⟩
  rw [g _ (by omega) (by omega), g _ (by omega) (by omega)]
  exact (e1 q hq k hk).2 hk2
theorem zIsM_b {b : Nat} (h : zIsM b) : 261 ≤ b ∧ b + 16 ≤ 455 ∧ ¬ (b ≤ 293 ∧ 293 < b + 16) := by
  rcases h with rfl | rfl | ⟨i, hi, rfl⟩ <;> omega
theorem zLk_W {S : zSp} {σ σ' : zS} {N p p' s m : Nat} {h : Nat → Nat → Int32} (e : zLk σ σ') (W : zWp S σ N p p' s m h) : zWp S σ' N p p' s m h := by
  obtain ⟨eg, ei, el, e5⟩ := e
  obtain ⟨w1, w2, ⟨w3, w3'⟩, ⟨w4, w4', w4''⟩, w5, ⟨w6, w6', ⟨h1, h2, h3⟩, ⟨r1, r2⟩, w6''⟩, ⟨n, i1, i2, i3, i4⟩, w8, ⟨a, c, s1, s2, s3, s4, s5, s6, s7, s8, s9, s10, s11, s12⟩⟩ := W
  have e456 := ei 456 (by omega)
  have hp : p + 127 ≤ 455 := by omega
  unfold zWp
  rw [eg, e456]
  refine ⟨w1, w2, ⟨zPl_ci w3 eg (fun a _ _ => ei a (by omega)), fun q hq k hk hk2 => ?_⟩, ⟨KM_o w4 (fun a _ _ => ⟨ei a (by omega), el a (by omega)⟩), w4', w4''⟩, fun b hb => ?_, ⟨w6, w6', ⟨?_, ?_, fun i hi => ?_⟩, ⟨?_, fun i hi k hk => ?_⟩, w6''⟩, ⟨n, i1, ?_, ?_, fun k hk => ?_⟩, ?_, ⟨a, c, ?_, s2, s3, s4, s5, ?_, ?_, ?_, s9, s10, fun k hk => ?_, fun k hk => ?_⟩⟩
  · rw [ei _ (by omega)]
    exact w3' q hq k hk hk2
  · have hb2 := zIsM_b hb
    rw [ei _ (by omega), ei _ (by omega)]
    exact w5 b hb
  · rw [ei _ (by omega)]; exact h1
  · rw [ei _ (by omega)]; exact h2
  · have hb := hslot_b s i
    rw [eg]
    exact ⟨(h3 i hi).1, KM_o (h3 i hi).2 (fun a _ _ => ⟨ei a (by omega), el a (by omega)⟩)⟩
  · rw [e5 5 (by omega)]; exact r1
  · rw [ei _ (by omega)]; exact r2 i hi k hk
  · rw [ei _ (by omega)]; exact i2
  · rw [e5 13 (by omega)]; exact i3
  · rw [ei _ (by omega), ei _ (by omega)]; exact i4 k hk
  · rw [ei _ (by omega), e5 14 (by omega)]; exact w8
  · rw [eg]; exact s1
  · rw [ei _ (by omega)]; exact s6
  · rw [ei _ (by omega)]; exact s7
  · rw [e5 11 (by omega)]; exact s8
  · rw [ei _ (by omega), ei _ (by omega)]; exact s11 k hk
  · rw [ei _ (by omega)]; exact s12 k hk
theorem zLk_Wd {S : zSp} {σ σ' : zS} {N : Nat} (e : zLk σ σ') (W : zWd S σ N) : zWd S σ' N := by
  obtain ⟨p, p', s, m, h, W⟩ := W
  exact ⟨p, p', s, m, h, zLk_W e W⟩
/-! single looks: the model's and the class's -/
section ZLOOK
variable {ln : Nat → Nat} {σ : zS}
theorem n_isOffice {v : Int32} {Q : Int32 → zS → Prop} (h1 : v = 0 ∨ v = 1 → Q 1 σ) (h0 : ¬ (v = 0 ∨ v = 1) → Q 0 σ) : wX12_isOffice ln σ v Q :=
  ⟨fun e => h1 (Or.inl e), fun e => ⟨fun e2 => h1 (Or.inr e2), fun e2 => h0 (fun h => h.elim e e2)⟩⟩
theorem n_ofOffice (G : zMg (gr σ) ln) {v b : Int32} {k : Nat} (hb : b.toInt = k) (hk : k ≤ 100) {Q : Int32 → zS → Prop} (h0 : v = 0 → Q (gi σ 456 k) (si σ 455 0 0)) (h1 : v = 1 → Q (gi σ 456 (k + 1)) (si σ 455 0 0)) (hx : ¬ (v = 0 ∨ v = 1) → Q 0 (si (si σ 455 0 0) 455 0 1)) : wX12_ofOffice ln σ 455 v b Q := by
  intro σ1 e1
  subst e1
  refine n_isOffice (fun hv => ⟨fun h => absurd h (by decide), fun _ => ⟨456, G.1.1, fun x7 e7 => ?_⟩⟩) (fun hv => ⟨fun _ σ1 e => by subst e; exact hx hv, fun h => absurd rfl h⟩)
  have l1 := G.2.1
  rcases hv with hv | hv
  · have e : x7 = nI k := by rw [e7, hv, Int32.add_zero, neq, hb, nI_toInt (by omega)]
    subst e
    rw [l1, nI_clamp (by omega), si_out _ _ (by decide)]
    exact ⟨vp_in_nI (by omega) (by omega), h0 hv⟩
  · have e : x7 = nI (k + 1) := by
      rw [e7, hv, neq, nI_toInt (by omega), nadd (by rw [hb]; show _ ≤ (k : Int) + 1; omega) (by rw [hb]; show (k : Int) + 1 < _; omega), hb]
      show (k : Int) + 1 = _
      omega
    subst e
    rw [l1, nI_clamp (by omega), si_out _ _ (by decide)]
    exact ⟨vp_in_nI (by omega) (by omega), h1 hv⟩
theorem c_office (ST : zST (gr σ) ln) {v : Int32} {Q : Nat → zS → Prop} {X : String → zS → Prop} (h0 : v = 0 → Q 262 σ) (h1 : v = 1 → Q 265 σ) (hx : ¬ (v = 0 ∨ v = 1) → X "java/lang/IndexOutOfBoundsException" σ) : wxX11_officeAt ln σ 0 v Q X := by
  have g3 := ST.1.2.2.2.1
  have S := ST.2.2.2.2.1 261 (Or.inl rfl)
  refine ⟨fun e => ⟨261, g3, ⟨fun e1 => ?_, fun _ => ⟨262, S.1.1, h0 e⟩⟩⟩, fun e => ⟨fun e1 => ⟨261, g3, ⟨fun _ => ⟨265, S.1.2.1, h1 e1⟩, fun h => absurd e1 h⟩⟩, fun e1 => hx (fun h => h.elim e e1)⟩⟩
  rw [e] at e1
  exact absurd e1 (by decide)
theorem c_desk (ST : zST (gr σ) ln) {p : Nat} (gp : gr σ 0 6 = some p) (PS : zPs (gr σ) ln p) {v : Int32} {Q : Nat → zS → Prop} {X : String → zS → Prop} (h0 : v = 0 → Q (p + 3) σ) (h1 : v = 1 → Q (p + 65) σ) (hx : ¬ (v = 0 ∨ v = 1) → X "java/lang/IndexOutOfBoundsException" σ) : wxX11_deskAt ln σ 0 v Q X := by
  refine ⟨fun e => ⟨p, gp, ⟨fun e1 => ?_, fun _ => ⟨p + 3, PS.2.1.1, h0 e⟩⟩⟩, fun e => ⟨fun e1 => ⟨p, gp, ⟨fun _ => ⟨p + 65, PS.2.1.2, h1 e1⟩, fun h => absurd e1 h⟩⟩, fun e1 => hx (fun h => h.elim e e1)⟩⟩
  rw [e] at e1
  exact absurd e1 (by decide)
end ZLOOK
section ZW
variable {S : zSp} {σ : zS} {N p p' s m : Nat} {h : Nat → Nat → Int32}
theorem zWp.st (W : zWp S σ N p p' s m h) : zST (gr σ) (zSl S) := W.1
theorem zWp.mg (W : zWp S σ N p p' s m h) : zMg (gr σ) (zSl S) := W.1.2.2.2.2.2.2
theorem zWp.ps (W : zWp S σ N p p' s m h) : zPs (gr σ) (zSl S) p := by
  rcases W.2.1.1 with ⟨e, _⟩ | ⟨e, _⟩
  · rw [e]; exact W.1.2.2.2.2.2.1.1
  · rw [e]; exact W.1.2.2.2.2.2.1.2
theorem zWp.sm (W : zWp S σ N p p' s m h) : zMs (gr σ) (zSl S) 261 := W.1.2.2.2.2.1 261 (Or.inl rfl)
theorem zWp.pb (W : zWp S σ N p p' s m h) : p + 127 ≤ 261 := by have := W.2.1.1; omega
theorem zWp.km (W : zWp S σ N p p' s m h) : KM σ 261 (gi σ 456) := W.2.2.2.1.1
theorem zWp.ev (W : zWp S σ N p p' s m h) : zEv (gi σ 456) N := W.2.2.2.1.2.1
theorem zWp.w (W : zWp S σ N p p' s m h) : zW (gi σ 456) := W.2.2.2.1.2.1.1
theorem zWp.x (W : zWp S σ N p p' s m h) : zx (gi σ 456) (gi σ 456 5).toInt := W.2.2.2.1.2.1.2.1
theorem zWp.pl (W : zWp S σ N p p' s m h) : zPl σ (zSl S) p (gi σ 456) := W.2.2.1.1
theorem zWp.gp (W : zWp S σ N p p' s m h) : gr σ 0 6 = some p := W.2.1.2.1
theorem zWp.gm (W : zWp S σ N p p' s m h) : gr σ 261 0 = some p := W.2.1.2.2.2
theorem zWp.l463 (W : zWp S σ N p p' s m h) : zSl S 463 = 1 := W.1.2.2.1.2.1
theorem zWp.l464 (W : zWp S σ N p p' s m h) : zSl S 464 = 1 := W.1.2.2.1.2.2
end ZW
theorem vp01 : vp_in (0 : Int32) 1 := nin (by decide) (by decide)
theorem gl_o (σ : zS) (v : Int64) (k : Int32) : gl (si (sl σ 463 0 v) 455 0 k) 463 0 = v := by
  show gl (sl σ 463 0 v) 463 0 = v
  rw [gl_sl, if_pos rfl, if_pos rfl]
theorem gi_t (σ : zS) (k : Int32) : gi (si σ 455 0 k) 455 0 = k := by
  rw [gi_si, if_pos rfl, if_pos rfl]
/-- what a call of both leaves: the world, what was thrown, the answers -/
def zEnd (S : zSp) (N : Nat) (K : Int32 → Int32 → zS → Prop) : Prop := ∀ k b σ', zWd S σ' N → gi σ' 455 0 = k → (k = 0 → gl σ' 463 0 = b.toInt64) → K k b σ'

theorem L_phase {S : zSp} {σ : zS} {N : Nat} (W : zWd S σ N) {v : Int32} {K : Int32 → Int32 → zS → Prop} (hK : zEnd S N K) : wL_phase (zSl S) σ 0 v 463 (fun r5 σ4 => wX12_phase (zSl S) σ4 455 v (fun r10 σ9 => K r5 r10 σ9)) := by
  obtain ⟨p, p', s, m, h, W⟩ := W
  have e0 : gi σ 262 0 = gi σ 456 21 := W.km.2.1.1.1
  have e1 : gi σ 265 0 = gi σ 456 22 := W.km.2.1.2.1
  have hl := W.l463
  have hd : ∀ x : Int32, zWd S (si (sl σ 463 0 x.toInt64) 455 0 0) N := fun x => ⟨p, p', s, m, h, zLk_W (zLk_o.tr zLk_t) W⟩
  have hx : zWd S (si (si σ 455 0 0) 455 0 1) N := ⟨p, p', s, m, h, zLk_W (zLk_t.tr zLk_t) W⟩
  unfold wL_phase wxX11_phase
  refine c_office W.st (fun hv x6 e6 => ?_) (fun hv x6 e6 => ?_) (fun hv => ⟨rfl, ?_⟩)
  · rw [hl]
    refine ⟨vp01, fun σ8 e8 => ?_⟩
    subst e6 e8
    refine n_ofOffice (k := 21) (σ := sl σ 463 0 (gi σ 262 0).toInt64) W.mg rfl (by decide) (fun _ => ?_) (fun e => ?_) (fun hn => absurd (Or.inl hv) hn)
    · exact hK _ _ _ (hd _) (gi_t _ _) (fun _ => by rw [gl_o, e0]; rfl)
    · rw [hv] at e; exact absurd e (by decide)
  · rw [hl]
    refine ⟨vp01, fun σ8 e8 => ?_⟩
    subst e6 e8
    refine n_ofOffice (k := 21) (σ := sl σ 463 0 (gi σ 265 0).toInt64) W.mg rfl (by decide) (fun e => ?_) (fun _ => ?_) (fun hn => absurd (Or.inr hv) hn)
    · rw [hv] at e; exact absurd e (by decide)
    · exact hK _ _ _ (hd _) (gi_t _ _) (fun _ => by rw [gl_o, e1]; rfl)
  · refine n_ofOffice (k := 21) W.mg rfl (by decide) (fun e => absurd (Or.inl e) hv) (fun e => absurd (Or.inr e) hv) (fun _ => ?_)
    exact hK _ _ _ hx (gi_t _ _) (fun e => absurd e (by decide))
theorem L_rate {S : zSp} {σ : zS} {N : Nat} (W : zWd S σ N) {v : Int32} {K : Int32 → Int32 → zS → Prop} (hK : zEnd S N K) : wL_rate (zSl S) σ 0 v 463 (fun r5 σ4 => wX12_rate (zSl S) σ4 455 v (fun r10 σ9 => K r5 r10 σ9)) := by
  obtain ⟨p, p', s, m, h, W⟩ := W
  have e0 : gi σ 262 1 = gi σ 456 23 := W.km.2.1.1.2.1
  have e1 : gi σ 265 1 = gi σ 456 24 := W.km.2.1.2.2.1
  have hl := W.l463
  have hd : ∀ x : Int32, zWd S (si (sl σ 463 0 x.toInt64) 455 0 0) N := fun x => ⟨p, p', s, m, h, zLk_W (zLk_o.tr zLk_t) W⟩
  have hx : zWd S (si (si σ 455 0 0) 455 0 1) N := ⟨p, p', s, m, h, zLk_W (zLk_t.tr zLk_t) W⟩
  unfold wL_rate wxX11_rate
  refine c_office W.st (fun hv x6 e6 => ?_) (fun hv x6 e6 => ?_) (fun hv => ⟨rfl, ?_⟩)
  · rw [hl]
    refine ⟨vp01, fun σ8 e8 => ?_⟩
    subst e6 e8
    refine n_ofOffice (k := 23) (σ := sl σ 463 0 (gi σ 262 1).toInt64) W.mg rfl (by decide) (fun _ => ?_) (fun e => ?_) (fun hn => absurd (Or.inl hv) hn)
    · exact hK _ _ _ (hd _) (gi_t _ _) (fun _ => by rw [gl_o, e0]; rfl)
    · rw [hv] at e; exact absurd e (by decide)
  · rw [hl]
    refine ⟨vp01, fun σ8 e8 => ?_⟩
    subst e6 e8
    refine n_ofOffice (k := 23) (σ := sl σ 463 0 (gi σ 265 1).toInt64) W.mg rfl (by decide) (fun e => ?_) (fun _ => ?_) (fun hn => absurd (Or.inr hv) hn)
    · rw [hv] at e; exact absurd e (by decide)
    · exact hK _ _ _ (hd _) (gi_t _ _) (fun _ => by rw [gl_o, e1]; rfl)
  · refine n_ofOffice (k := 23) W.mg rfl (by decide) (fun e => absurd (Or.inl e) hv) (fun e => absurd (Or.inr e) hv) (fun _ => ?_)
    exact hK _ _ _ hx (gi_t _ _) (fun e => absurd e (by decide))
theorem L_linesDone {S : zSp} {σ : zS} {N : Nat} (W : zWd S σ N) {v : Int32} {K : Int32 → Int32 → zS → Prop} (hK : zEnd S N K) : wL_linesDone (zSl S) σ 0 v 463 (fun r5 σ4 => wX12_linesDone (zSl S) σ4 455 v (fun r10 σ9 => K r5 r10 σ9)) := by
  obtain ⟨p, p', s, m, h, W⟩ := W
  have e0 : gi σ 262 2 = gi σ 456 27 := W.km.2.1.1.2.2.1
  have e1 : gi σ 265 2 = gi σ 456 28 := W.km.2.1.2.2.2.1
  have hl := W.l463
  have hd : ∀ x : Int32, zWd S (si (sl σ 463 0 x.toInt64) 455 0 0) N := fun x => ⟨p, p', s, m, h, zLk_W (zLk_o.tr zLk_t) W⟩
  have hx : zWd S (si (si σ 455 0 0) 455 0 1) N := ⟨p, p', s, m, h, zLk_W (zLk_t.tr zLk_t) W⟩
  unfold wL_linesDone wxX11_linesDone
  refine c_office W.st (fun hv x6 e6 => ?_) (fun hv x6 e6 => ?_) (fun hv => ⟨rfl, ?_⟩)
  · rw [hl]
    refine ⟨vp01, fun σ8 e8 => ?_⟩
    subst e6 e8
    refine n_ofOffice (k := 27) (σ := sl σ 463 0 (gi σ 262 2).toInt64) W.mg rfl (by decide) (fun _ => ?_) (fun e => ?_) (fun hn => absurd (Or.inl hv) hn)
    · exact hK _ _ _ (hd _) (gi_t _ _) (fun _ => by rw [gl_o, e0]; rfl)
    · rw [hv] at e; exact absurd e (by decide)
  · rw [hl]
    refine ⟨vp01, fun σ8 e8 => ?_⟩
    subst e6 e8
    refine n_ofOffice (k := 27) (σ := sl σ 463 0 (gi σ 265 2).toInt64) W.mg rfl (by decide) (fun e => ?_) (fun _ => ?_) (fun hn => absurd (Or.inr hv) hn)
    · rw [hv] at e; exact absurd e (by decide)
    · exact hK _ _ _ (hd _) (gi_t _ _) (fun _ => by rw [gl_o, e1]; rfl)
  · refine n_ofOffice (k := 27) W.mg rfl (by decide) (fun e => absurd (Or.inl e) hv) (fun e => absurd (Or.inr e) hv) (fun _ => ?_)
    exact hK _ _ _ hx (gi_t _ _) (fun e => absurd e (by decide))
theorem L_prints {S : zSp} {σ : zS} {N : Nat} (W : zWd S σ N) {v : Int32} {K : Int32 → Int32 → zS → Prop} (hK : zEnd S N K) : wL_prints (zSl S) σ 0 v 463 (fun r5 σ4 => wX12_prints (zSl S) σ4 455 v (fun r10 σ9 => K r5 r10 σ9)) := by
  obtain ⟨p, p', s, m, h, W⟩ := W
  have e0 : gi σ 262 3 = gi σ 456 31 := W.km.2.1.1.2.2.2.1
  have e1 : gi σ 265 3 = gi σ 456 32 := W.km.2.1.2.2.2.2.1
  have hl := W.l463
  have hd : ∀ x : Int32, zWd S (si (sl σ 463 0 x.toInt64) 455 0 0) N := fun x => ⟨p, p', s, m, h, zLk_W (zLk_o.tr zLk_t) W⟩
  have hx : zWd S (si (si σ 455 0 0) 455 0 1) N := ⟨p, p', s, m, h, zLk_W (zLk_t.tr zLk_t) W⟩
  unfold wL_prints wxX11_prints
  refine c_office W.st (fun hv x6 e6 => ?_) (fun hv x6 e6 => ?_) (fun hv => ⟨rfl, ?_⟩)
  · rw [hl]
    refine ⟨vp01, fun σ8 e8 => ?_⟩
    subst e6 e8
    refine n_ofOffice (k := 31) (σ := sl σ 463 0 (gi σ 262 3).toInt64) W.mg rfl (by decide) (fun _ => ?_) (fun e => ?_) (fun hn => absurd (Or.inl hv) hn)
    · exact hK _ _ _ (hd _) (gi_t _ _) (fun _ => by rw [gl_o, e0]; rfl)
    · rw [hv] at e; exact absurd e (by decide)
  · rw [hl]
    refine ⟨vp01, fun σ8 e8 => ?_⟩
    subst e6 e8
    refine n_ofOffice (k := 31) (σ := sl σ 463 0 (gi σ 265 3).toInt64) W.mg rfl (by decide) (fun e => ?_) (fun _ => ?_) (fun hn => absurd (Or.inr hv) hn)
    · rw [hv] at e; exact absurd e (by decide)
    · exact hK _ _ _ (hd _) (gi_t _ _) (fun _ => by rw [gl_o, e1]; rfl)
  · refine n_ofOffice (k := 31) W.mg rfl (by decide) (fun e => absurd (Or.inl e) hv) (fun e => absurd (Or.inr e) hv) (fun _ => ?_)
    exact hK _ _ _ hx (gi_t _ _) (fun e => absurd e (by decide))
theorem L_misprints {S : zSp} {σ : zS} {N : Nat} (W : zWd S σ N) {v : Int32} {K : Int32 → Int32 → zS → Prop} (hK : zEnd S N K) : wL_misprints (zSl S) σ 0 v 463 (fun r5 σ4 => wX12_misprints (zSl S) σ4 455 v (fun r10 σ9 => K r5 r10 σ9)) := by
  obtain ⟨p, p', s, m, h, W⟩ := W
  have e0 : gi σ 262 4 = gi σ 456 33 := W.km.2.1.1.2.2.2.2.1
  have e1 : gi σ 265 4 = gi σ 456 34 := W.km.2.1.2.2.2.2.2.1
  have hl := W.l463
  have hd : ∀ x : Int32, zWd S (si (sl σ 463 0 x.toInt64) 455 0 0) N := fun x => ⟨p, p', s, m, h, zLk_W (zLk_o.tr zLk_t) W⟩
  have hx : zWd S (si (si σ 455 0 0) 455 0 1) N := ⟨p, p', s, m, h, zLk_W (zLk_t.tr zLk_t) W⟩
  unfold wL_misprints wxX11_misprints
  refine c_office W.st (fun hv x6 e6 => ?_) (fun hv x6 e6 => ?_) (fun hv => ⟨rfl, ?_⟩)
  · rw [hl]
    refine ⟨vp01, fun σ8 e8 => ?_⟩
    subst e6 e8
    refine n_ofOffice (k := 33) (σ := sl σ 463 0 (gi σ 262 4).toInt64) W.mg rfl (by decide) (fun _ => ?_) (fun e => ?_) (fun hn => absurd (Or.inl hv) hn)
    · exact hK _ _ _ (hd _) (gi_t _ _) (fun _ => by rw [gl_o, e0]; rfl)
    · rw [hv] at e; exact absurd e (by decide)
  · rw [hl]
    refine ⟨vp01, fun σ8 e8 => ?_⟩
    subst e6 e8
    refine n_ofOffice (k := 33) (σ := sl σ 463 0 (gi σ 265 4).toInt64) W.mg rfl (by decide) (fun e => ?_) (fun _ => ?_) (fun hn => absurd (Or.inr hv) hn)
    · rw [hv] at e; exact absurd e (by decide)
    · exact hK _ _ _ (hd _) (gi_t _ _) (fun _ => by rw [gl_o, e1]; rfl)
  · refine n_ofOffice (k := 33) W.mg rfl (by decide) (fun e => absurd (Or.inl e) hv) (fun e => absurd (Or.inr e) hv) (fun _ => ?_)
    exact hK _ _ _ hx (gi_t _ _) (fun e => absurd e (by decide))
theorem L_worstOffset {S : zSp} {σ : zS} {N : Nat} (W : zWd S σ N) {v : Int32} {K : Int32 → Int32 → zS → Prop} (hK : zEnd S N K) : wL_worstOffset (zSl S) σ 0 v 463 (fun r5 σ4 => wX12_worstOffset (zSl S) σ4 455 v (fun r10 σ9 => K r5 r10 σ9)) := by
  obtain ⟨p, p', s, m, h, W⟩ := W
  have e0 : gi σ 262 5 = gi σ 456 35 := W.km.2.1.1.2.2.2.2.2
  have e1 : gi σ 265 5 = gi σ 456 36 := W.km.2.1.2.2.2.2.2.2
  have hl := W.l463
  have hd : ∀ x : Int32, zWd S (si (sl σ 463 0 x.toInt64) 455 0 0) N := fun x => ⟨p, p', s, m, h, zLk_W (zLk_o.tr zLk_t) W⟩
  have hx : zWd S (si (si σ 455 0 0) 455 0 1) N := ⟨p, p', s, m, h, zLk_W (zLk_t.tr zLk_t) W⟩
  unfold wL_worstOffset wxX11_worstOffset
  refine c_office W.st (fun hv x6 e6 => ?_) (fun hv x6 e6 => ?_) (fun hv => ⟨rfl, ?_⟩)
  · rw [hl]
    refine ⟨vp01, fun σ8 e8 => ?_⟩
    subst e6 e8
    refine n_ofOffice (k := 35) (σ := sl σ 463 0 (gi σ 262 5).toInt64) W.mg rfl (by decide) (fun _ => ?_) (fun e => ?_) (fun hn => absurd (Or.inl hv) hn)
    · exact hK _ _ _ (hd _) (gi_t _ _) (fun _ => by rw [gl_o, e0]; rfl)
    · rw [hv] at e; exact absurd e (by decide)
  · rw [hl]
    refine ⟨vp01, fun σ8 e8 => ?_⟩
    subst e6 e8
    refine n_ofOffice (k := 35) (σ := sl σ 463 0 (gi σ 265 5).toInt64) W.mg rfl (by decide) (fun e => ?_) (fun _ => ?_) (fun hn => absurd (Or.inr hv) hn)
    · rw [hv] at e; exact absurd e (by decide)
    · exact hK _ _ _ (hd _) (gi_t _ _) (fun _ => by rw [gl_o, e1]; rfl)
  · refine n_ofOffice (k := 35) W.mg rfl (by decide) (fun e => absurd (Or.inl e) hv) (fun e => absurd (Or.inr e) hv) (fun _ => ?_)
    exact hK _ _ _ hx (gi_t _ _) (fun e => absurd e (by decide))
