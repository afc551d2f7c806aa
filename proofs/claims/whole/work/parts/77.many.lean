/-! MANY TICKS: the row, the class, the model -/
theorem rArr_1 : ∀ (k : Nat) (r : Nat → Int32) (f1 f2 : Int32), (rArr k (r, f1)).1 = (rArr k (r, f2)).1
  | 0, _, _, _ => rfl
  | k + 1, r, f1, f2 => by
    rw [rArr, rArr]
    by_cases h : ¬ r 19 ≤ 0 ∧ r 2963 = r 5
    · rw [if_pos h, if_pos h]
      exact rArr_1 k _ _ _
    · rw [if_neg h, if_neg h]
def rT (r : Nat → Int32) : Nat → Int32 := (rTick (r, 0)).1
theorem rTick_1 (r : Nat → Int32) (far : Int32) : (rTick (r, far)).1 = rT r := by
  show rT2 (rT1 (rLooks (rArr 601 (rTick0 r, far)).1)) = rT2 (rT1 (rLooks (rArr 601 (rTick0 r, 0)).1))
  rw [rArr_1 601 _ far 0]
def rN : Nat → (Nat → Int32) → (Nat → Int32)
  | 0, r => r
  | n + 1, r => rN n (rT r)
def fN : Nat → (Nat → Int32) → Int32 → Int32
  | 0, _, far => far
  | n + 1, r, far => fN n (rT r) (rTick (r, far)).2
def rG : Nat → (Nat → Int32) → Nat × (Nat → Int32)
  | 0, r => (0, r)
  | d + 1, r => if r 6 = -1 then (0, r) else ((rG d (rT r)).1 + 1, (rG d (rT r)).2)
theorem E_T {r : Nat → Int32} {N : Nat} (h : zEv r N) (hN : N ≤ 512) (hT : (r 5).toInt ≤ 109999) : zEv (rT r) N ∧ zkp r (rT r) ∧ (rT r 5).toInt = (r 5).toInt + 1 := by
  obtain ⟨_, _, _, _, _, k1, k2, k3⟩ := E_tick h hN hT 0
  have := h.1.T
  exact ⟨k1, k2, by show ((rTick (r, 0)).1 5).toInt = _; rw [k3]; exact ixs (k := 1) rfl (by decide) (by omega) (by omega)⟩
theorem E_N {N : Nat} (hN : N ≤ 512) : ∀ (n : Nat) (r : Nat → Int32), zEv r N → (r 5).toInt + n ≤ 110000 → zEv (rN n r) N ∧ zkp r (rN n r) ∧ (rN n r 5).toInt = (r 5).toInt + n
  | 0, r, h, _ => ⟨h, fun _ _ => rfl, by show (r 5).toInt = _; omega⟩
  | n + 1, r, h, hT => by
    obtain ⟨k1, k2, k3⟩ := E_T h hN (by omega)
    obtain ⟨j1, j2, j3⟩ := E_N hN n (rT r) k1 (by omega)
    exact ⟨j1, k2.tr j2, by show (rN n (rT r) 5).toInt = _; omega⟩
theorem E_G {N : Nat} (hN : N ≤ 512) : ∀ (n : Nat) (r : Nat → Int32), zEv r N → (r 5).toInt + n ≤ 110000 → zEv (rG n r).2 N ∧ zkp r (rG n r).2 ∧ ((rG n r).2 5).toInt = (r 5).toInt + (rG n r).1 ∧ (rG n r).1 ≤ n
  | 0, r, h, _ => ⟨h, fun _ _ => rfl, by show (r 5).toInt = (r 5).toInt + (0 : Nat); omega, Nat.le_refl _⟩
  | n + 1, r, h, hT => by
    rw [rG]
    by_cases h6 : r 6 = -1
    · rw [if_pos h6]
      exact ⟨h, fun _ _ => rfl, by show (r 5).toInt = (r 5).toInt + (0 : Nat); omega, Nat.zero_le _⟩
    · rw [if_neg h6]
      obtain ⟨k1, k2, k3⟩ := E_T h hN (by omega)
      obtain ⟨j1, j2, j3, j4⟩ := E_G hN n (rT r) k1 (by omega)
      exact ⟨j1, k2.tr j2, by show ((rG n (rT r)).2 5).toInt = (r 5).toInt + (((rG n (rT r)).1 + 1 : Nat) : Int); omega, by show (rG n (rT r)).1 + 1 ≤ n + 1; omega⟩
theorem zPl_fr {σ σ' : zS} {ln : Nat → Nat} {p : Nat} {r : Nat → Int32} {B : Nat → Prop} (h : zPl σ ln p r) (e : zFr B σ σ') (hB : ∀ a, p ≤ a → a < p + 127 → ¬ B a) : zPl σ' ln p r := by
  obtain ⟨⟨a1, a2, a3, a4⟩, b1, ⟨c1, c2⟩, d1, e1⟩ := h
  have g : ∀ a, p ≤ a → a < p + 127 → gi σ' a = gi σ a := fun a h1 h2 => (e.2.2 a (hB a h1 h2)).1
  unfold zPl
  rw [e.1, g p (by omega) (by omega), g (p + 3) (by omega) (by omega), g (p + 65) (by omega) (by omega)]
  refine ⟨⟨a1, a2, a3, a4⟩, b1, ⟨c1, c2⟩, d1, fun q hq k hk => ⟨(e1 q hq k hk).1, fun hk2 => ?_⟩⟩
  rw [g _ (by omega) (by omega), g _ (by omega) (by omega)]
  exact (e1 q hq k hk).2 hk2
/-- the cells of a machine -/
def zB16 (b : Nat) : Nat → Prop := fun a => b ≤ a ∧ a < b + 16
theorem C_tickS {ln : Nat → Nat} {σ : zS} {b p : Nat} {r : Nat → Int32} {N : Nat} (S : zMs (gr σ) ln b) (gp : gr σ b 0 = some p) (hp : p + 127 ≤ b ∨ b + 16 ≤ p) (PL : zPl σ ln p r) (K : KM σ b r) (hN : N ≤ 512) (E : zEv r N) (hT : (r 5).toInt ≤ 109999) {Q : zS → Prop} (hq : ∀ σ', KM σ' b (rT r) → zFr (zB16 b) σ σ' → zPl σ' ln p (rT r) → Q σ') : wX3_tick ln σ b Q := by
  have := C_tick S gp hp PL K E.1 hN E hT 0 (Q := Q) (fun f' t0 t1 h => by
    rw [rTick_1] at h
    refine hq _ (KM_zcs h) (zFr_zcs σ b f' t0 t1) ?_
    exact (zPl_fr PL (zFr_zcs σ b f' t0 t1) (fun a h1 h2 => by omega)).c (E_T E hN hT).2.1 E.1)
  rw [zcs_self] at this
  exact this
theorem zMs_e {σ σ' : zS} {ln : Nat → Nat} {b : Nat} (h : zMs (gr σ) ln b) (e : gr σ' = gr σ) : zMs (gr σ') ln b := by rw [e]; exact h
section ZLOOP
variable {ln : Nat → Nat} {b p N : Nat}
theorem C_until2 (hp : p + 127 ≤ b ∨ b + 16 ≤ p) (hN : N ≤ 512) {Q : Int32 → zS → Prop} {m : Nat} (hm : m ≤ 10000) : ∀ (d k : Nat) (σ : zS) (r : Nat → Int32), k + d = m → zMs (gr σ) ln b → gr σ b 0 = some p → zPl σ ln p r → KM σ b r → zEv r N → (r 5).toInt + d ≤ 110000 → (∀ σ', KM σ' b (rG d r).2 → zFr (zB16 b) σ σ' → zPl σ' ln p (rG d r).2 → Q (nI (k + (rG d r).1)) σ') → wX11_ticksMadeUntilDone_2 ln Q (d + 1) b (nI m) (nI k) σ
  | 0, k, σ, r, hk, S, gp, PL, K, E, hT, hq => by
    have e : nI m ≤ nI k := nI_le (by omega) (by omega)
    rw [wX11_ticksMadeUntilDone_2]
    exact ⟨fun _ => hq σ K zFr.rf PL, fun h => absurd e h⟩
  | d + 1, k, σ, r, hk, S, gp, PL, K, E, hT, hq => by
    have e : ¬ nI m ≤ nI k := nI_ge (by omega) (by omega)
    have e6 : gi σ b 3 = r 6 := K.1.2.2.1
    rw [rG] at hq
    rw [wX11_ticksMadeUntilDone_2, e6]
    refine ⟨fun h => absurd h e, fun _ => ⟨fun h6 => ?_, fun h6 => ?_⟩⟩
    · rw [if_pos h6] at hq
      exact hq σ K zFr.rf PL
    · rw [if_neg h6] at hq
      refine C_tickS S gp hp PL K hN E (by omega) (fun σ' K' F PL' x2 e2 => ?_)
      subst e2
      rw [nI_1]
      obtain ⟨k1, k2, k3⟩ := E_T E hN (by omega)
      refine C_until2 hp hN hm d (k + 1) σ' (rT r) (by omega) (zMs_e S F.1) (by rw [F.1]; exact gp) PL' K' k1 (by omega) (fun σ2 K2 F2 P2 => ?_)
      have := hq σ2 K2 (F.tr F2) P2
      rw [show k + ((rG d (rT r)).1 + 1) = k + 1 + (rG d (rT r)).1 by omega] at this
      exact this
theorem C_run34 (hp : p + 127 ≤ 261 ∨ 261 + 16 ≤ p) (hN : N ≤ 512) {Q : Int32 → zS → Prop} {X : String → zS → Prop} {m : Nat} (hm : m ≤ 10000) {bf : Int32} : ∀ (d k : Nat) (σ : zS) (r : Nat → Int32), k + d = m → gr σ 0 3 = some 261 → zMs (gr σ) ln 261 → gr σ 261 0 = some p → zPl σ ln p r → KM σ 261 r → zEv r N → (r 5).toInt + d ≤ 110000 → (∀ σ', KM σ' 261 (rN d r) → zFr (zB16 261) σ σ' → zPl σ' ln p (rN d r) → Q (rN d r 16 - bf) σ') → wxX11_run_34 ln Q X (d + 1) 0 (nI m) bf (nI k) σ
  | 0, k, σ, r, hk, g3, S, gp, PL, K, E, hT, hq => by
    have e : nI m ≤ nI k := nI_le (by omega) (by omega)
    have e9 : gi σ 261 9 = r 16 := K.1.2.2.2.2.2.2.2.2.1
    rw [wxX11_run_34]
    refine ⟨fun _ => ⟨261, g3, ?_⟩, fun h => absurd e h⟩
    rw [e9]
    exact hq σ K zFr.rf PL
  | d + 1, k, σ, r, hk, g3, S, gp, PL, K, E, hT, hq => by
    have e : ¬ nI m ≤ nI k := nI_ge (by omega) (by omega)
    rw [wxX11_run_34]
    refine ⟨fun h => absurd h e, fun _ => ⟨261, g3, ?_⟩⟩
    refine C_tickS S gp hp PL K hN E (by omega) (fun σ' K' F PL' x2 e2 => ?_)
    subst e2
    rw [nI_1]
    obtain ⟨k1, k2, k3⟩ := E_T E hN (by omega)
    exact C_run34 hp hN hm d (k + 1) σ' (rT r) (by omega) (by rw [F.1]; exact g3) (zMs_e S F.1) (by rw [F.1]; exact gp) PL' K' k1 (by omega) (fun σ2 K2 F2 P2 => hq σ2 K2 (F.tr F2) P2)
theorem C_mis24 (hp : p + 127 ≤ 277 ∨ 277 + 16 ≤ p) (hN : N ≤ 512) {Q : Int32 → zS → Prop} {m : Nat} (hm : m ≤ 10000) {bf : Int32} : ∀ (d k : Nat) (σ : zS) (r : Nat → Int32), k + d = m → gr σ 0 4 = some 277 → zMs (gr σ) ln 277 → gr σ 277 0 = some p → zPl σ ln p r → KM σ 277 r → zEv r N → (r 5).toInt + d ≤ 110000 → (∀ σ', KM σ' 277 (rN d r) → zFr (zB16 277) σ σ' → Q ((rN d r 33 + rN d r 34) - bf) σ') → wX11_misprintsOfTrial_24 ln Q (d + 1) 0 (nI m) bf (nI k) σ
  | 0, k, σ, r, hk, g3, S, gp, PL, K, E, hT, hq => by
    have e : nI m ≤ nI k := nI_le (by omega) (by omega)
    have e1 : gi σ 278 4 = r 33 := K.2.1.1.2.2.2.2.1
    have e2 : gi σ 281 4 = r 34 := K.2.1.2.2.2.2.2.1
    have q1 : gr σ 277 11 = some 278 := S.1.1
    have q2 : gr σ 277 12 = some 281 := S.1.2.1
    rw [wX11_misprintsOfTrial_24]
    refine ⟨fun _ => ⟨277, g3, 278, q1, 277, g3, 281, q2, ?_⟩, fun h => absurd e h⟩
    rw [e1, e2]
    exact hq σ K zFr.rf
  | d + 1, k, σ, r, hk, g3, S, gp, PL, K, E, hT, hq => by
    have e : ¬ nI m ≤ nI k := nI_ge (by omega) (by omega)
    rw [wX11_misprintsOfTrial_24]
    refine ⟨fun h => absurd h e, fun _ => ⟨277, g3, ?_⟩⟩
    refine C_tickS S gp hp PL K hN E (by omega) (fun σ' K' F PL' x2 e2 => ?_)
    subst e2
    rw [nI_1]
    obtain ⟨k1, k2, k3⟩ := E_T E hN (by omega)
    exact C_mis24 hp hN hm d (k + 1) σ' (rT r) (by omega) (by rw [F.1]; exact g3) (zMs_e S F.1) (by rw [F.1]; exact gp) PL' K' k1 (by omega) (fun σ2 K2 F2 => hq σ2 K2 (F.tr F2))
theorem C_wor24 (hp : p + 127 ≤ 277 ∨ 277 + 16 ≤ p) (hN : N ≤ 512) {Q : Int32 → zS → Prop} {m : Nat} (hm : m ≤ 10000) : ∀ (d k : Nat) (σ : zS) (r : Nat → Int32), k + d = m → gr σ 0 4 = some 277 → zMs (gr σ) ln 277 → gr σ 277 0 = some p → zPl σ ln p r → KM σ 277 r → zEv r N → (r 5).toInt + d ≤ 110000 → (∀ σ', KM σ' 277 (rN d r) → zFr (zB16 277) σ σ' → Q (if rN d r 35 < rN d r 36 then rN d r 36 else rN d r 35) σ') → wX11_worstOffsetOfTrial_24 ln Q (d + 1) 0 (nI m) (nI k) σ
  | 0, k, σ, r, hk, g3, S, gp, PL, K, E, hT, hq => by
    have e : nI m ≤ nI k := nI_le (by omega) (by omega)
    have e1 : gi σ 278 5 = r 35 := K.2.1.1.2.2.2.2.2
    have e2 : gi σ 281 5 = r 36 := K.2.1.2.2.2.2.2.2
    have q1 : gr σ 277 11 = some 278 := S.1.1
    have q2 : gr σ 277 12 = some 281 := S.1.2.1
    rw [wX11_worstOffsetOfTrial_24]
    refine ⟨fun _ => ⟨277, g3, 278, q1, 277, g3, 281, q2, fun x5 y5 x6 y6 => ?_⟩, fun h => absurd e h⟩
    subst y5 y6
    rw [e1, e2]
    exact hq σ K zFr.rf
  | d + 1, k, σ, r, hk, g3, S, gp, PL, K, E, hT, hq => by
    have e : ¬ nI m ≤ nI k := nI_ge (by omega) (by omega)
    rw [wX11_worstOffsetOfTrial_24]
    refine ⟨fun h => absurd h e, fun _ => ⟨277, g3, ?_⟩⟩
    refine C_tickS S gp hp PL K hN E (by omega) (fun σ' K' F PL' x2 e2 => ?_)
    subst e2
    rw [nI_1]
    obtain ⟨k1, k2, k3⟩ := E_T E hN (by omega)
    exact C_wor24 hp hN hm d (k + 1) σ' (rT r) (by omega) (by rw [F.1]; exact g3) (zMs_e S F.1) (by rw [F.1]; exact gp) PL' K' k1 (by omega) (fun σ2 K2 F2 => hq σ2 K2 (F.tr F2))
end ZLOOP
/-! the model, by its cells -/
theorem zms_self (σ : zS) : zms σ (gi σ 456) (gi σ 460) (gi σ 455 7) (gi σ 455 9) = σ := by
  refine zS_ext (fun a j => ?_) rfl
  rw [gi_zms]
  split
  · rename_i h; subst h; rfl
  · split
    · rename_i h; subst h; rfl
    · split
      · rename_i h
        subst h
        split
        · rename_i h; subst h; rfl
        · split
          · rename_i h; subst h; rfl
          · rfl
      · rfl
/-- the model's own: its row, its path, the two numbers -/
def zMf (σ σ' : zS) : Prop := σ'.2 = σ.2 ∧ (∀ a, a ≠ 456 → a ≠ 460 → a ≠ 455 → gi σ' a = gi σ a) ∧ ∀ j, j ≠ 7 → j ≠ 9 → gi σ' 455 j = gi σ 455 j
theorem zMf.rf {σ : zS} : zMf σ σ := ⟨rfl, fun _ _ _ _ => rfl, fun _ _ _ => rfl⟩
theorem zMf.tr {σ σ' σ'' : zS} (h : zMf σ σ') (g : zMf σ' σ'') : zMf σ σ'' := ⟨g.1.trans h.1, fun a h1 h2 h3 => (g.2.1 a h1 h2 h3).trans (h.2.1 a h1 h2 h3), fun j h1 h2 => (g.2.2 j h1 h2).trans (h.2.2 j h1 h2)⟩
theorem zMf.r {σ σ' : zS} (h : zMf σ σ') : gr σ' = gr σ := by
  show σ'.2.1 = σ.2.1
  rw [h.1]
theorem zMf.l {σ σ' : zS} (h : zMf σ σ') : gl σ' = gl σ := by
  show σ'.2.2.1 = σ.2.2.1
  rw [h.1]
theorem zMf.d {σ σ' : zS} (h : zMf σ σ') : gd σ' = gd σ := by
  show σ'.2.2.2 = σ.2.2.2
  rw [h.1]
theorem zMf_zms (σ : zS) (r pf : Nat → Int32) (n far : Int32) : zMf σ (zms σ r pf n far) := ⟨rfl, fun a h1 h2 h3 => by
  funext k
  exact gi_zms_a σ r pf n far h1 h2 h3 k, fun j h1 h2 => by
  rw [gi_zms, if_neg (by decide), if_neg (by decide), if_pos rfl, if_neg h1, if_neg h2]⟩
/-- the model's references -/
def zMg (g : Nat → Nat → Option Nat) (ln : Nat → Nat) : Prop := (g 455 1 = some 456 ∧ g 455 2 = some 457 ∧ g 455 3 = some 458 ∧ g 455 4 = some 459 ∧ g 455 6 = some 460 ∧ g 455 8 = some 13 ∧ g 455 10 = some 461 ∧ g 455 12 = some 462) ∧ (ln 456 = 4763 ∧ ln 457 = 4763 ∧ ln 458 = 4763 ∧ ln 459 = 47630 ∧ ln 460 = 64 ∧ ln 461 = 100 ∧ ln 462 = 600)
theorem M_tickS {ln : Nat → Nat} {σ : zS} {N : Nat} (G : zMg (gr σ) ln) (E : zEv (gi σ 456) N) (hN : N ≤ 512) (hT : (gi σ 456 5).toInt ≤ 109999) {Q : zS → Prop} (hq : ∀ σ', gi σ' 456 = rT (gi σ 456) → gi σ' 455 9 = (rTick (gi σ 456, gi σ 455 9)).2 → zMf σ σ' → Q σ') : wX12_ticks ln σ 455 Q := by
  have := M_tick (σ := σ) (r := gi σ 456) (pf := gi σ 460) (n := gi σ 455 7) (far := gi σ 455 9) (Q := Q) G.1.1 G.2.1 G.1.2.2.2.2.1 G.2.2.2.2.2.1 E hN hT (fun pf' n' => hq _ (by rw [← rTick_1 _ (gi σ 455 9)]; rfl) rfl (zMf_zms σ _ _ _ _))
  rw [zms_self] at this
  exact this
section MLOOP
variable {ln : Nat → Nat} {N : Nat}
theorem M_run56 (hN : N ≤ 512) {Q : Int32 → zS → Prop} {m : Nat} (hm : m ≤ 10000) {bf : Int32} : ∀ (d k : Nat) (σ : zS), k + d = m → zMg (gr σ) ln → zEv (gi σ 456) N → (gi σ 456 5).toInt + d ≤ 110000 → (∀ σ', gi σ' 456 = rN d (gi σ 456) → zMf σ σ' → Q (rN d (gi σ 456) 16 - bf) σ') → wX12_run_56 ln Q (d + 1) 455 (nI m) bf (nI k) σ
  | 0, k, σ, hk, G, E, hT, hq => by
    have e : nI m ≤ nI k := nI_le (by omega) (by omega)
    have l1 := G.2.1
    rw [wX12_run_56]
    refine ⟨fun _ => ⟨456, G.1.1, by rw [l1]; exact vq16, ?_⟩, fun h => absurd e h⟩
    exact hq σ rfl zMf.rf
  | d + 1, k, σ, hk, G, E, hT, hq => by
    have e : ¬ nI m ≤ nI k := nI_ge (by omega) (by omega)
    rw [wX12_run_56]
    refine ⟨fun h => absurd h e, fun _ => ?_⟩
    refine M_tickS G E hN (by omega) (fun σ' K' _ F x2 e2 => ?_)
    subst e2
    rw [nI_1]
    obtain ⟨k1, k2, k3⟩ := E_T E hN (by omega)
    refine M_run56 hN hm d (k + 1) σ' (by omega) (by rw [F.r]; exact G) (by rw [K']; exact k1) (by rw [K']; omega) (fun σ2 K2 F2 => ?_)
    rw [K'] at K2 ⊢
    exact hq σ2 K2 (F.tr F2)
theorem M_wr7 (hN : N ≤ 512) {Q : Int32 → zS → Prop} {m : Nat} (hm : m ≤ 10000) {bf : Int32} : ∀ (d k : Nat) (σ : zS), k + d = m → zMg (gr σ) ln → zEv (gi σ 456) N → (gi σ 456 5).toInt + d ≤ 110000 → (∀ σ', gi σ' 456 = rN d (gi σ 456) → gi σ' 455 9 = fN d (gi σ 456) (gi σ 455 9) → zMf σ σ' → Q ((rN d (gi σ 456) 33 + rN d (gi σ 456) 34) - bf) σ') → wX12_wrongIn_7 ln Q (d + 1) 455 (nI m) bf (nI k) σ
  | 0, k, σ, hk, G, E, hT, hq => by
    have e : nI m ≤ nI k := nI_le (by omega) (by omega)
    have l1 := G.2.1
    rw [wX12_wrongIn_7]
    refine ⟨fun _ => ⟨456, G.1.1, by rw [l1]; exact vq33, 456, G.1.1, by rw [l1]; exact vq34, ?_⟩, fun h => absurd e h⟩
    exact hq σ rfl rfl zMf.rf
  | d + 1, k, σ, hk, G, E, hT, hq => by
    have e : ¬ nI m ≤ nI k := nI_ge (by omega) (by omega)
    rw [wX12_wrongIn_7]
    refine ⟨fun h => absurd h e, fun _ => ?_⟩
    refine M_tickS G E hN (by omega) (fun σ' K' L' F x2 e2 => ?_)
    subst e2
    rw [nI_1]
    obtain ⟨k1, k2, k3⟩ := E_T E hN (by omega)
    refine M_wr7 hN hm d (k + 1) σ' (by omega) (by rw [F.r]; exact G) (by rw [K']; exact k1) (by rw [K']; omega) (fun σ2 K2 L2 F2 => ?_)
    rw [K', L'] at L2
    rw [K'] at K2 ⊢
    exact hq σ2 K2 L2 (F.tr F2)
theorem M_isSender {σ : zS} (G : zMg (gr σ) ln) {Q : Int32 → zS → Prop} (hq : Q (if gi σ 456 6 = -1 then 0 else 1) σ) : wX12_isSender ln σ 455 Q := by
  have := m_isSender (σ := σ) (r := gi σ 456) (pf := gi σ 460) (n := gi σ 455 7) (far := gi σ 455 9) (Q := Q) G.1.1 G.2.1 (by rw [zms_self]; exact hq)
  rw [zms_self] at this
  exact this
theorem M_goes2 (hN : N ≤ 512) {Q : Int32 → zS → Prop} {m : Nat} (hm : m ≤ 10000) : ∀ (d k : Nat) (σ : zS), k + d = m → zMg (gr σ) ln → zEv (gi σ 456) N → (gi σ 456 5).toInt + d ≤ 110000 → (∀ σ', gi σ' 456 = (rG d (gi σ 456)).2 → zMf σ σ' → Q (nI (k + (rG d (gi σ 456)).1)) σ') → wX12_goesOn_2 ln Q (d + 1) 455 (nI m) (nI k) σ
  | 0, k, σ, hk, G, E, hT, hq => by
    have e : nI m ≤ nI k := nI_le (by omega) (by omega)
    rw [wX12_goesOn_2]
    exact ⟨fun _ => hq σ rfl zMf.rf, fun h => absurd e h⟩
  | d + 1, k, σ, hk, G, E, hT, hq => by
    have e : ¬ nI m ≤ nI k := nI_ge (by omega) (by omega)
    rw [rG] at hq
    rw [wX12_goesOn_2]
    refine ⟨fun h => absurd h e, fun _ => ?_⟩
    refine M_isSender G ?_
    by_cases h6 : gi σ 456 6 = -1
    · rw [if_pos h6] at hq ⊢
      exact ⟨fun _ => hq σ rfl zMf.rf, fun h => absurd rfl h⟩
    · rw [if_neg h6] at hq ⊢
      refine ⟨fun h => absurd h (by decide), fun _ => ?_⟩
      refine M_tickS G E hN (by omega) (fun σ' K' _ F x2 e2 => ?_)
      subst e2
      rw [nI_1]
      obtain ⟨k1, k2, k3⟩ := E_T E hN (by omega)
      refine M_goes2 hN hm d (k + 1) σ' (by omega) (by rw [F.r]; exact G) (by rw [K']; exact k1) (by rw [K']; omega) (fun σ2 K2 F2 => ?_)
      rw [K'] at K2 ⊢
      have := hq σ2 K2 (F.tr F2)
      rw [show k + ((rG d (rT (gi σ 456))).1 + 1) = k + 1 + (rG d (rT (gi σ 456))).1 by omega] at this
      exact this
end MLOOP
