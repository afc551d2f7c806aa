/-! ROWS KEPT: the model's past, the class's history -/
def zcg (r r' : Nat → Int32) : Prop := ∀ k, k < 4763 → r' k = r k
theorem zkey_lt {k : Nat} (h : zkey k) : k < 4763 := by unfold zkey at h; omega
theorem zW_cg {r r' : Nat → Int32} (h : zW r) (e : zcg r r') : zW r' := zW_cong (fun k hk => e k (zkey_lt hk)) h
theorem zkp_cg {r r' : Nat → Int32} (e : zcg r r') : zkp r r' := fun k hk => e k (by omega)
theorem RR_cg {f : Nat → Nat → Int32} {s0 s1 : Int64} {r r' : Nat → Int32} (h : RR f s0 s1 r) (hW : zW r) (e : zcg r r') : RR f s0 s1 r' := by
  obtain ⟨nb, ne, nz, nm0, nm1, nt⟩ := hW.bn
  obtain ⟨h1, ⟨h2, h2'⟩, ⟨h3, h3'⟩, h4, h5, h6, h7, h8, h9⟩ := h
  exact ⟨RS_c h1 rfl (fun k hk => e k (by omega)), ⟨RO_c h2 rfl (fun k hk => e k (by omega)), RO_c h2' rfl (fun k hk => e k (by omega))⟩, ⟨RV_c h3 rfl rfl (e _ (by omega)) (fun k hk => e _ (by omega)), RV_c h3' rfl rfl (e _ (by omega)) (fun k hk => e _ (by omega))⟩, RB_c h4 rfl rfl rfl (fun k hk => e k (by omega)) (fun k hk => e _ (by omega)), RT_c h5 rfl rfl (e _ (by omega)) (fun k hk => e _ (by omega)), RE_c h6 rfl rfl (e _ (by omega)) (fun k hk => e _ (by omega)), RZ_c h7 rfl rfl (e _ (by omega)) (fun k hk => e _ (by omega)), by rw [e 37 (by omega)]; exact h8, by rw [e 38 (by omega)]; exact h9⟩
theorem zEv_cg {r r' : Nat → Int32} {N : Nat} (h : zEv r N) (e : zcg r r') : zEv r' N := by
  obtain ⟨hW, hx, hT, hB⟩ := h
  obtain ⟨nb, ne, nz, nm0, nm1, nt⟩ := hW.bn
  have ze : zTe r r' := ⟨e 19 (by omega), fun j hj => e _ (by omega), e 5 (by omega), e 1 (by omega), fun x => by rw [← e 14 (by omega)]; exact x⟩
  refine ⟨zW_cg hW e, ?_, ?_, by rw [ze.B nt]; exact hB⟩
  · rw [e 5 (by omega)]
    exact zx_c (fun k hk => e k (by omega)) (zkp_cg e) hW hx
  · rw [e 5 (by omega), e 1 (by omega)]
    exact ze.T nt hT
theorem zEv_mono {r : Nat → Int32} {N M : Nat} (h : zEv r N) (e : N ≤ M) : zEv r M := ⟨h.1, h.2.1, h.2.2.1, Nat.le_trans h.2.2.2 e⟩
theorem KM_cg {σ : zS} {b : Nat} {r r' : Nat → Int32} (h : KM σ b r) (hW : zW r) (e : zcg r r') : KM σ b r' := RR_cg h hW e
theorem si_sI (σ : zS) (a : Nat) (f : Nat → Int32) (k : Nat) (v : Int32) : si (sI σ a f) a k v = sI σ a (zu f k v) := by
  refine zS_ext (fun b j => ?_) rfl
  rw [gi_si, gi_sI, gi_sI]
  split
  · rfl
  · rfl
theorem sI_self (σ : zS) (a : Nat) : sI σ a (gi σ a) = σ := by
  refine zS_ext (fun b j => ?_) rfl
  rw [gi_sI]
  split
  · rename_i h; rw [h]
  · rfl
/-! the model's loops -/
theorem M_copies {ln : Nat → Nat} {σ : zS} {a c : Nat} (hac : a ≠ c) (la : ln a = 4763) (lc : ln c = 4763) {Q : zS → Prop} (hq : Q (sI σ c (fun k => if k < 4763 then gi σ a k else gi σ c k))) : wX12_copies ln σ a c Q := by
  have key : ∀ d i : Nat, i + d = 4763 → wX12_copies_2 ln Q (d + 1) a c (nI i) (sI σ c (fun k => if k < i then gi σ a k else gi σ c k)) := by
    intro d
    induction d with
    | zero =>
      intro i hi
      obtain rfl : i = 4763 := by omega
      rw [wX12_copies_2]
      exact ⟨fun _ => hq, fun h => absurd (show (4763 : Int32) ≤ nI 4763 by decide) h⟩
    | succ d ih =>
      intro i hi
      have hc : ¬ (4763 : Int32) ≤ nI i := nI_ge (a := i) (b := 4763) (by omega) (by decide)
      have v0 : vp_in (nI i) 4763 := vp_in_nI (by omega) (by omega)
      have i0 : (nI i).toNatClampNeg = i := nI_clamp (by omega)
      have g0 : gi (sI σ c (fun k => if k < i then gi σ a k else gi σ c k)) a i = gi σ a i := by rw [gi_sI, if_neg hac]
      rw [wX12_copies_2]
      refine ⟨fun h => absurd h hc, fun _ => ?_⟩
      rw [la, lc, i0, g0]
      refine ⟨v0, fun x2 e2 => ⟨v0, fun σ4 e4 x5 e5 => ?_⟩⟩
      subst e2 e4 e5
      rw [nI_1, si_sI]
      have e : zu (fun k => if k < i then gi σ a k else gi σ c k) i (gi σ a i) = fun k => if k < i + 1 then gi σ a k else gi σ c k := by
        funext k
        rw [zu_ap]
        by_cases h : k = i
        · subst h; rw [if_pos rfl, if_pos (by omega)]
        · rw [if_neg h]
          by_cases h2 : k < i
          · rw [if_pos h2, if_pos (by omega)]
          · rw [if_neg h2, if_neg (by omega)]
      rw [e]
      exact ih (i + 1) (by omega)
  have h0 := key 4763 0 (by omega)
  have e : (fun k => if k < 0 then gi σ a k else gi σ c k) = gi σ c := by
    funext k
    rw [if_neg (Nat.not_lt_zero k)]
  rw [e, sI_self] at h0
  exact ⟨4764, h0⟩
/-- the rows that the model keeps -/
def zRec (σ : zS) (m : Nat) (h : Nat → Nat → Int32) : Prop := gi σ 455 5 = nI m ∧ ∀ i, i < m → ∀ k, k < 4763 → gi σ 459 (4763 * i + k) = h i k
def hpush (m : Nat) (h : Nat → Nat → Int32) (r : Nat → Int32) : Nat → Nat → Int32 := fun i => if m = 10 then (if i < 9 then h (i + 1) else r) else if i < m then h i else r
/-- what the keeping changes -/
def zMr (σ σ' : zS) : Prop := σ'.2 = σ.2 ∧ (∀ a, a ≠ 459 → a ≠ 455 → gi σ' a = gi σ a) ∧ ∀ j, j ≠ 5 → gi σ' 455 j = gi σ 455 j
theorem zMr.r {σ σ' : zS} (h : zMr σ σ') : gr σ' = gr σ := by
  show σ'.2.1 = σ.2.1
  rw [h.1]
theorem zMr.l {σ σ' : zS} (h : zMr σ σ') : gl σ' = gl σ := by
  show σ'.2.2.1 = σ.2.2.1
  rw [h.1]
theorem zMr.d {σ σ' : zS} (h : zMr σ σ') : gd σ' = gd σ := by
  show σ'.2.2.2 = σ.2.2.2
  rw [h.1]
theorem sI_out (σ : zS) {a b : Nat} (f : Nat → Int32) (h : b ≠ a) : gi (sI σ a f) b = gi σ b := by
  funext j
  rw [gi_sI, if_neg h]
theorem sI_at (σ : zS) (a : Nat) (f : Nat → Int32) : gi (sI σ a f) a = f := by
  funext j
  rw [gi_sI, if_pos rfl]
theorem si_out (σ : zS) {a k b : Nat} (v : Int32) (h : b ≠ a) : gi (si σ a k v) b = gi σ b := by
  funext j
  rw [gi_si, if_neg h]
theorem si_at (σ : zS) (a k : Nat) (v : Int32) : gi (si σ a k v) a = zu (gi σ a) k v := by
  funext j
  rw [gi_si, if_pos rfl]
  rfl
theorem M_rec51 {ln : Nat → Nat} {σ : zS} (G : zMg (gr σ) ln) {m : Nat} (hm : m ≤ 9) (h5 : gi σ 455 5 = nI m) {Q : zS → Prop} (hq : Q (si (sI σ 459 (fun k => if 4763 * m ≤ k ∧ k < 4763 * m + 4763 then gi σ 456 (k - 4763 * m) else gi σ 459 k)) 455 5 (nI (m + 1)))) : wX12_records_49 ln Q 455 σ := by
  have l1 := G.2.1
  have l4 := G.2.2.2.2.1
  have g1 := G.1.1
  have g4 := G.1.2.2.2.1
  have key : ∀ d i : Nat, i + d = 4763 → wX12_records_51 ln Q (d + 1) 455 (nI i) (sI σ 459 (fun k => if 4763 * m ≤ k ∧ k < 4763 * m + i then gi σ 456 (k - 4763 * m) else gi σ 459 k)) := by
    intro d
    induction d with
    | zero =>
      intro i hi
      obtain rfl : i = 4763 := by omega
      have e5 : gi (sI σ 459 (fun k => if 4763 * m ≤ k ∧ k < 4763 * m + 4763 then gi σ 456 (k - 4763 * m) else gi σ 459 k)) 455 5 = nI m := by rw [sI_out _ _ (by decide)]; exact h5
      rw [wX12_records_51]
      refine ⟨fun _ x1 e1 σ2 e2 => ?_, fun h => absurd (show (4763 : Int32) ≤ nI 4763 by decide) h⟩
      rw [e5, nI_1] at e1
      subst e1 e2
      exact hq
    | succ d ih =>
      intro i hi
      have hc : ¬ (4763 : Int32) ≤ nI i := nI_ge (a := i) (b := 4763) (by omega) (by decide)
      have v0 : vp_in (nI i) 4763 := vp_in_nI (by omega) (by omega)
      have i0 : (nI i).toNatClampNeg = i := nI_clamp (by omega)
      have e5 : gi (sI σ 459 (fun k => if 4763 * m ≤ k ∧ k < 4763 * m + i then gi σ 456 (k - 4763 * m) else gi σ 459 k)) 455 5 = nI m := by rw [sI_out _ _ (by decide)]; exact h5
      have e6 : gi (sI σ 459 (fun k => if 4763 * m ≤ k ∧ k < 4763 * m + i then gi σ 456 (k - 4763 * m) else gi σ 459 k)) 456 i = gi σ 456 i := by rw [sI_out _ _ (by decide)]
      have em : (4763 : Int32) * nI m + nI i = nI (4763 * m + i) := by
        have : (4763 : Int32) * nI m = nI (4763 * m) := pk_mul 4763 m
        rw [this, nI_add]
      have v1 : vp_in (nI (4763 * m + i)) 47630 := vp_in_nI (by omega) (by omega)
      have i1 : (nI (4763 * m + i)).toNatClampNeg = 4763 * m + i := nI_clamp (by omega)
      rw [wX12_records_51]
      refine ⟨fun h => absurd h hc, fun _ => ⟨459, g4, 456, g1, ?_⟩⟩
      rw [l1, l4, e5, em, i0, e6]
      refine ⟨v0, fun x6 y6 x7 y7 => ?_⟩
      subst y7
      rw [i1]
      refine ⟨v1, fun σ9 e9 x10 e10 => ?_⟩
      subst y6 e9 e10
      rw [nI_1, si_sI]
      have e : zu (fun k => if 4763 * m ≤ k ∧ k < 4763 * m + i then gi σ 456 (k - 4763 * m) else gi σ 459 k) (4763 * m + i) (gi σ 456 i) = fun k => if 4763 * m ≤ k ∧ k < 4763 * m + (i + 1) then gi σ 456 (k - 4763 * m) else gi σ 459 k := by
        funext k
        rw [zu_ap]
        by_cases h : k = 4763 * m + i
        · subst h
          rw [if_pos rfl, if_pos (by omega), show 4763 * m + i - 4763 * m = i by omega]
        · rw [if_neg h]
          by_cases h2 : 4763 * m ≤ k ∧ k < 4763 * m + i
          · rw [if_pos h2, if_pos (by omega)]
          · rw [if_neg h2, if_neg (by omega)]
      rw [e]
      exact ih (i + 1) (by omega)
  have h0 := key 4763 0 (by omega)
  have e : (fun k => if 4763 * m ≤ k ∧ k < 4763 * m + 0 then gi σ 456 (k - 4763 * m) else gi σ 459 k) = gi σ 459 := by
    funext k
    rw [if_neg (by omega)]
  rw [e, sI_self] at h0
  exact ⟨4764, h0⟩
theorem M_records {ln : Nat → Nat} {σ : zS} (G : zMg (gr σ) ln) {m : Nat} {h : Nat → Nat → Int32} (hm : m ≤ 10) (H : zRec σ m h) {Q : zS → Prop} (hq : ∀ σ', zRec σ' (if m = 10 then 10 else m + 1) (hpush m h (gi σ 456)) → zMr σ σ' → Q σ') : wX12_records ln σ 455 Q := by
  have l1 := G.2.1
  have l4 := G.2.2.2.2.1
  have g1 := G.1.1
  have g4 := G.1.2.2.2.1
  obtain ⟨H1, H2⟩ := H
  unfold wX12_records
  rw [H1]
  refine ⟨fun h10 => ?_, fun h10 => ?_⟩
  · have hm10 : m = 10 := (nI_eq (a := m) (b := 10) (by omega) (by decide)).mp h10
    subst hm10
    have key : ∀ d i : Nat, i + d = 42867 → wX12_records_11 ln Q (d + 1) 455 (nI i) (sI σ 459 (fun k => if k < i then gi σ 459 (k + 4763) else gi σ 459 k)) := by
      intro d
      induction d with
      | zero =>
        intro i hi
        obtain rfl : i = 42867 := by omega
        have e5 : gi (sI σ 459 (fun k => if k < 42867 then gi σ 459 (k + 4763) else gi σ 459 k)) 455 5 = nI 10 := by rw [sI_out _ _ (by decide)]; exact H1
        rw [wX12_records_11]
        refine ⟨fun _ x1 e1 σ2 e2 => ?_, fun h => absurd (show (42867 : Int32) ≤ nI 42867 by decide) h⟩
        rw [e5] at e1
        have e1' : x1 = nI 9 := e1
        subst e1' e2
        refine M_rec51 (m := 9) (by exact G) (by decide) (by rw [si_at, zu_self]) ?_
        refine hq _ ⟨?_, fun i hi k hk => ?_⟩ ⟨rfl, fun a a1 a2 => ?_, fun j hj => ?_⟩
        · rw [si_at, zu_self]; rfl
        · rw [si_out _ _ (by decide), sI_at]
          rw [si_out _ _ (by decide), si_out _ _ (by decide), sI_out _ _ (by decide), sI_at]
          have hi : i < 10 := hi
          show _ = (if 10 = 10 then (if i < 9 then h (i + 1) else gi σ 456) else _) k
          rw [if_pos rfl]
          by_cases h9 : i < 9
          · rw [if_neg (by omega), if_pos (by omega), if_pos h9, show 4763 * i + k + 4763 = 4763 * (i + 1) + k by omega]
            exact H2 (i + 1) (by omega) k hk
          · rw [if_pos (by omega), if_neg h9, show 4763 * i + k - 4763 * 9 = k by omega]
        · rw [si_out _ _ a2, sI_out _ _ a1, si_out _ _ a2, sI_out _ _ a1]
        · rw [si_at, zu_ne hj, sI_out _ _ (by decide), si_at, zu_ne hj, sI_out _ _ (by decide)]
      | succ d ih =>
        intro i hi
        have hc : ¬ (42867 : Int32) ≤ nI i := nI_ge (a := i) (b := 42867) (by omega) (by decide)
        have e1 : nI i + 4763 = nI (i + 4763) := nI_add i 4763
        have v0 : vp_in (nI i) 47630 := vp_in_nI (by omega) (by omega)
        have i0 : (nI i).toNatClampNeg = i := nI_clamp (by omega)
        have v1 : vp_in (nI (i + 4763)) 47630 := vp_in_nI (by omega) (by omega)
        have i1 : (nI (i + 4763)).toNatClampNeg = i + 4763 := nI_clamp (by omega)
        have e6 : gi (sI σ 459 (fun k => if k < i then gi σ 459 (k + 4763) else gi σ 459 k)) 459 (i + 4763) = gi σ 459 (i + 4763) := by rw [sI_at, if_neg (by omega)]
        rw [wX12_records_11]
        refine ⟨fun h => absurd h hc, fun _ => ⟨459, g4, 459, g4, fun x5 y5 => ?_⟩⟩
        rw [e1] at y5
        subst y5
        rw [l4, i1, i0, e6]
        refine ⟨v1, fun x7 y7 => ⟨v0, fun σ9 e9 x10 e10 => ?_⟩⟩
        subst y7 e9 e10
        rw [nI_1, si_sI]
        have e : zu (fun k => if k < i then gi σ 459 (k + 4763) else gi σ 459 k) i (gi σ 459 (i + 4763)) = fun k => if k < i + 1 then gi σ 459 (k + 4763) else gi σ 459 k := by
          funext k
          rw [zu_ap]
          by_cases h : k = i
          · subst h; rw [if_pos rfl, if_pos (by omega)]
          · rw [if_neg h]
            by_cases h2 : k < i
            · rw [if_pos h2, if_pos (by omega)]
            · rw [if_neg h2, if_neg (by omega)]
        rw [e]
        exact ih (i + 1) (by omega)
    have h0 := key 42867 0 (by omega)
    have e : (fun k => if k < 0 then gi σ 459 (k + 4763) else gi σ 459 k) = gi σ 459 := by
      funext k
      rw [if_neg (Nat.not_lt_zero k)]
    rw [e, sI_self] at h0
    exact ⟨42868, h0⟩
  · have hm10 : ¬ m = 10 := fun e => h10 (by rw [e]; rfl)
    refine M_rec51 (m := m) G (by omega) H1 ?_
    rw [if_neg hm10] at hq
    refine hq _ ⟨?_, fun i hi k hk => ?_⟩ ⟨rfl, fun a a1 a2 => ?_, fun j hj => ?_⟩
    · rw [si_at, zu_self]
    · rw [si_out _ _ (by decide), sI_at]
      show _ = (if m = 10 then _ else if i < m then h i else gi σ 456) k
      rw [if_neg hm10]
      by_cases h9 : i < m
      · rw [if_neg (by omega), if_pos h9]
        exact H2 i h9 k hk
      · have : i = m := by omega
        subst this
        rw [if_pos (by omega), if_neg h9, show 4763 * i + k - 4763 * i = k by omega]
    · rw [si_out _ _ a2, sI_out _ _ a1]
    · rw [si_at, zu_ne hj, sI_out _ _ (by decide)]
theorem M_undo30 {ln : Nat → Nat} {σ : zS} (G : zMg (gr σ) ln) {m : Nat} (hm : m ≤ 9) (h5 : gi σ 455 5 = nI m) {Q : Int32 → zS → Prop} (hq : Q (nI m) (sI σ 456 (fun k => if k < 4763 then gi σ 459 (4763 * m + k) else gi σ 456 k))) : ∃ n : Nat, wX12_undo_30 ln Q n 455 0 σ := by
  have l1 := G.2.1
  have l4 := G.2.2.2.2.1
  have g1 := G.1.1
  have g4 := G.1.2.2.2.1
  have key : ∀ d i : Nat, i + d = 4763 → wX12_undo_30 ln Q (d + 1) 455 (nI i) (sI σ 456 (fun k => if k < i then gi σ 459 (4763 * m + k) else gi σ 456 k)) := by
    intro d
    induction d with
    | zero =>
      intro i hi
      obtain rfl : i = 4763 := by omega
      have e5 : gi (sI σ 456 (fun k => if k < 4763 then gi σ 459 (4763 * m + k) else gi σ 456 k)) 455 5 = nI m := by rw [sI_out _ _ (by decide)]; exact h5
      rw [wX12_undo_30, e5]
      exact ⟨fun _ => hq, fun h => absurd (show (4763 : Int32) ≤ nI 4763 by decide) h⟩
    | succ d ih =>
      intro i hi
      have hc : ¬ (4763 : Int32) ≤ nI i := nI_ge (a := i) (b := 4763) (by omega) (by decide)
      have v0 : vp_in (nI i) 4763 := vp_in_nI (by omega) (by omega)
      have i0 : (nI i).toNatClampNeg = i := nI_clamp (by omega)
      have e5 : gi (sI σ 456 (fun k => if k < i then gi σ 459 (4763 * m + k) else gi σ 456 k)) 455 5 = nI m := by rw [sI_out _ _ (by decide)]; exact h5
      have e6 : gi (sI σ 456 (fun k => if k < i then gi σ 459 (4763 * m + k) else gi σ 456 k)) 459 (4763 * m + i) = gi σ 459 (4763 * m + i) := by rw [sI_out _ _ (by decide)]
      have em : (4763 : Int32) * nI m + nI i = nI (4763 * m + i) := by
        have : (4763 : Int32) * nI m = nI (4763 * m) := pk_mul 4763 m
        rw [this, nI_add]
      have v1 : vp_in (nI (4763 * m + i)) 47630 := vp_in_nI (by omega) (by omega)
      have i1 : (nI (4763 * m + i)).toNatClampNeg = 4763 * m + i := nI_clamp (by omega)
      rw [wX12_undo_30]
      refine ⟨fun h => absurd h hc, fun _ => ⟨456, g1, 459, g4, fun x3 y3 => ?_⟩⟩
      rw [e5, em] at y3
      subst y3
      rw [l1, l4, i1, i0, e6]
      refine ⟨v1, fun x5 y5 => ⟨v0, fun σ7 e7 x8 e8 => ?_⟩⟩
      subst y5 e7 e8
      rw [nI_1, si_sI]
      have e : zu (fun k => if k < i then gi σ 459 (4763 * m + k) else gi σ 456 k) i (gi σ 459 (4763 * m + i)) = fun k => if k < i + 1 then gi σ 459 (4763 * m + k) else gi σ 456 k := by
        funext k
        rw [zu_ap]
        by_cases h : k = i
        · subst h; rw [if_pos rfl, if_pos (by omega)]
        · rw [if_neg h]
          by_cases h2 : k < i
          · rw [if_pos h2, if_pos (by omega)]
          · rw [if_neg h2, if_neg (by omega)]
      rw [e]
      exact ih (i + 1) (by omega)
  have h0 := key 4763 0 (by omega)
  have e : (fun k => if k < 0 then gi σ 459 (4763 * m + k) else gi σ 456 k) = gi σ 456 := by
    funext k
    rw [if_neg (Nat.not_lt_zero k)]
  rw [e, sI_self] at h0
  exact ⟨4764, h0⟩
/-! the class's history -/
def zIsM (b : Nat) : Prop := b = 261 ∨ b = 277 ∨ ∃ i, i < 10 ∧ b = 295 + 16 * i
def hslot (s i : Nat) : Nat := 295 + 16 * ((s + i) % 10)
theorem hslot_M (s i : Nat) : zIsM (hslot s i) := Or.inr (Or.inr ⟨(s + i) % 10, Nat.mod_lt _ (by decide), rfl⟩)
theorem hslot_b (s i : Nat) : 295 ≤ hslot s i ∧ hslot s i + 16 ≤ 455 := by
  have := Nat.mod_lt (s + i) (show 0 < 10 by decide)
  unfold hslot
  omega
theorem hslot_ne {s i j : Nat} (hi : i < 10) (hj : j < 10) (h : i ≠ j) : hslot s i + 16 ≤ hslot s j ∨ hslot s j + 16 ≤ hslot s i := by
  unfold hslot
  omega
def zHs (σ : zS) (p s m : Nat) (h : Nat → Nat → Int32) : Prop := gi σ 293 1 = nI s ∧ gi σ 293 2 = nI m ∧ ∀ i, i < m → gr σ (hslot s i) 0 = some p ∧ KM σ (hslot s i) (h i)
/-- what the class's actions on machines leave alone -/
def zFm (B : Nat → Prop) (σ σ' : zS) : Prop := (∀ a j, ¬ (zIsM a ∧ j = 0) → gr σ' a j = gr σ a j) ∧ gd σ' = gd σ ∧ ∀ a, ¬ B a → gi σ' a = gi σ a ∧ gl σ' a = gl σ a
def zCap (σ : zS) : Prop := ∀ b, zIsM b → gi σ (b + 10) 0 = nI 640 ∧ gi σ (b + 12) 0 = nI 40
theorem KM_cap {σ : zS} {b : Nat} {r : Nat → Int32} (h : KM σ b r) : gi σ (b + 10) 0 = nI 640 ∧ gi σ (b + 12) 0 = nI 40 := ⟨h.2.2.2.2.1.1, h.2.2.2.2.2.1.1⟩
/-- the references of the history -/
def zHg (g : Nat → Nat → Option Nat) (ln : Nat → Nat) : Prop := g 293 0 = some 294 ∧ (∀ i, i < 10 → g 294 i = some (295 + 16 * i)) ∧ ln 294 = 10
theorem C_slot {ln : Nat → Nat} {σ : zS} (G : zHg (gr σ) ln) {s i : Nat} (hs : s < 10) (hi : i < 10) (h1 : gi σ 293 1 = nI s) {v : Int32} (hv : v = nI i) {Q : Option Nat → zS → Prop} (hq : Q (some (hslot s i)) σ) : wX1_slot ln σ 293 v Q := by
  subst hv
  intro x1 e1 x2 e2
  rw [h1, nI_add] at e1
  subst e1
  have e3 : nI (s + i) - nI (s + i) / 10 * 10 = nI ((s + i) % 10) := pk_rem (a := s + i) (d := 10) (by omega) (by decide) (by decide)
  rw [e3] at e2
  subst e2
  have hm := Nat.mod_lt (s + i) (show 0 < 10 by decide)
  refine ⟨fun h => absurd h (nI_pos (by omega)), fun _ => ⟨294, G.1, ?_⟩⟩
  rw [G.2.2]
  refine ⟨fun h => absurd h (nI_ge (a := (s + i) % 10) (b := 10) hm (by decide)), fun _ => ⟨294, G.1, ?_⟩⟩
  rw [G.2.2, nI_clamp (by omega)]
  exact ⟨vp_in_nI hm (by decide), hslot s i, G.2.1 _ hm, hq⟩
theorem zFm.rf {B : Nat → Prop} {σ : zS} : zFm B σ σ := ⟨fun _ _ _ => rfl, rfl, fun _ _ => ⟨rfl, rfl⟩⟩
theorem zFm.tr {B : Nat → Prop} {σ σ' σ'' : zS} (h : zFm B σ σ') (g : zFm B σ' σ'') : zFm B σ σ'' := ⟨fun a j hn => (g.1 a j hn).trans (h.1 a j hn), g.2.1.trans h.2.1, fun a ha => ⟨(g.2.2 a ha).1.trans (h.2.2 a ha).1, (g.2.2 a ha).2.trans (h.2.2 a ha).2⟩⟩
theorem zFr.m {B : Nat → Prop} {σ σ' : zS} (h : zFr B σ σ') : zFm B σ σ' := ⟨fun a j _ => by rw [h.1], h.2.1, h.2.2⟩
theorem zFm.mono {B C : Nat → Prop} {σ σ' : zS} (h : zFm B σ σ') (e : ∀ a, B a → C a) : zFm C σ σ' := ⟨h.1, h.2.1, fun a ha => h.2.2 a (fun hb => ha (e a hb))⟩
theorem zFc.m {σ σ' : zS} {b p : Nat} (h : zFc σ σ' b p) (hb : zIsM b) : zFm (zB16 b) σ σ' := ⟨fun a j hn => by
  rw [h.1, gr_sr]
  split
  · rename_i e
    subst e
    rw [if_neg (fun e => hn ⟨hb, e⟩)]
  · rfl, h.2.1, h.2.2⟩
/-- the cells of the history -/
def zBh : Nat → Prop := fun a => 293 ≤ a ∧ a < 455
theorem C_keep {ln : Nat → Nat} {σ : zS} {p m s : Nat} {h : Nat → Nat → Int32} {r : Nat → Int32} (G : zHg (gr σ) ln) (SM : ∀ b, zIsM b → zMs (gr σ) ln b) (CP : zCap σ) (gp : gr σ 261 0 = some p) (K : KM σ 261 r) (hW : zW r) (h14 : r 14 = 0 ∨ r 14 = 1) (hm : m ≤ 10) (hs : s < 10) (H : zHs σ p s m h) {Q : zS → Prop} (hq : ∀ σ' s', s' < 10 → zHs σ' p s' (if m = 10 then 10 else m + 1) (hpush m h r) → zCap σ' → zFm zBh σ σ' → gr σ' 261 0 = some p → Q σ') : wX1_keep ln σ 293 261 Q := by
  obtain ⟨H1, H2, H3⟩ := H
  have hM1 : zIsM 261 := Or.inl rfl
  have go : ∀ (σ0 : zS) (s' m' : Nat) (h' : Nat → Nat → Int32), s' < 10 → m' < 10 → gr σ0 = gr σ → gd σ0 = gd σ → gl σ0 = gl σ → (∀ a, a ≠ 293 → gi σ0 a = gi σ a) → gi σ0 293 1 = nI s' → gi σ0 293 2 = nI m' → (∀ i, i < m' → gr σ (hslot s' i) 0 = some p ∧ KM σ (hslot s' i) (h' i)) → (∀ i, i < m' → hpush m h r i = h' i) → hpush m h r m' = r → (if m = 10 then 10 else m + 1) = m' + 1 → wX1_keep_32 ln Q 293 261 σ0 := by
    intro σ0 s' m' h' hs' hm' eg ed el ei i1 i2 i3 i4 i5 i6 x1 e1
    rw [i2] at e1
    subst e1
    refine C_slot (by rw [eg]; exact G) hs' hm' i1 rfl ⟨fun h => absurd h (by simp), fun j4 e4 => ?_⟩
    obtain rfl := Option.some.inj e4
    have hbb := hslot_b s' m'
    have hMs := hslot_M s' m'
    have cp := CP _ hMs
    refine C_copy (r := r) (p := p) (by rw [eg]; exact SM _ hMs) (by rw [eg]; exact SM _ hM1) (by omega) (by rw [eg]; exact gp) (KM_o K (fun a a1 a2 => ⟨ei a (by omega), by rw [el]⟩)) hW h14 (by rw [ei _ (by omega)]; exact cp.1) (by rw [ei _ (by omega)]; exact cp.2) (fun σ5 K5 F5 => ?_)
    intro x6 e6 σ7 e7
    have e62 : gi σ5 293 2 = nI m' := by rw [(F5.2.2 293 (by omega)).1]; exact i2
    rw [e62, nI_1] at e6
    subst e6 e7
    have gn : ∀ a j, ¬ (a = hslot s' m' ∧ j = 0) → gr σ5 a j = gr σ a j := fun a j hn => by
      rw [F5.1, gr_sr]
      split
      · rename_i e
        rw [if_neg (fun e2 => hn ⟨e, e2⟩), eg]
      · rw [eg]
    have ga : gr σ5 (hslot s' m') 0 = some p := by rw [F5.1, gr_sr, if_pos rfl, if_pos rfl]
    have gi5 : ∀ a, a ≠ 293 → ¬ (hslot s' m' ≤ a ∧ a < hslot s' m' + 16) → gi (si σ5 293 2 (nI (m' + 1))) a = gi σ a := fun a a1 a2 => by rw [si_out _ _ a1, (F5.2.2 a a2).1, ei a a1]
    have gl5 : ∀ a, ¬ (hslot s' m' ≤ a ∧ a < hslot s' m' + 16) → gl (si σ5 293 2 (nI (m' + 1))) a = gl σ a := fun a a2 => by
      show gl σ5 a = gl σ a
      rw [(F5.2.2 a a2).2, el]
    refine hq _ s' hs' ⟨?_, ?_, fun i hi => ?_⟩ (fun b hb => ?_) ⟨fun a j hn => ?_, ?_, fun a ha => ?_⟩ ?_
    · rw [si_at, zu_ne (by decide), (F5.2.2 293 (by omega)).1]; exact i1
    · rw [si_at, zu_self, i6]
    · rw [i6] at hi
      by_cases hi2 : i = m'
      · subst hi2
        rw [i5]
        exact ⟨ga, KM_o K5 (fun a a1 a2 => ⟨si_out _ _ (by omega), rfl⟩)⟩
      · rw [i4 i (by omega)]
        obtain ⟨j1, j2⟩ := i3 i (by omega)
        have hne := hslot_ne (s := s') (show i < 10 by omega) hm' hi2
        have hb2 := hslot_b s' i
        refine ⟨?_, KM_o j2 (fun a a1 a2 => ⟨gi5 a (by omega) (by omega), gl5 a (by omega)⟩)⟩
        show gr σ5 (hslot s' i) 0 = some p
        rw [gn _ _ (fun e => by omega)]
        exact j1
    · by_cases e : b = hslot s' m'
      · subst e
        have := KM_cap K5
        rw [si_out _ _ (by omega), si_out _ _ (by omega)]
        exact this
      · have hd : b + 16 ≤ hslot s' m' ∨ hslot s' m' + 16 ≤ b := by
          unfold hslot at e ⊢
          rcases hb with rfl | rfl | ⟨i, hi, rfl⟩
          · omega
          · omega
          · omega
        have hb293 : ¬ (b ≤ 293 ∧ 293 < b + 16) := by
          rcases hb with rfl | rfl | ⟨i, hi, rfl⟩ <;> omega
        have := CP b hb
        rw [gi5 _ (by omega) (by omega), gi5 _ (by omega) (by omega)]
        exact this
    · show gr σ5 a j = gr σ a j
      exact gn a j (fun e => hn ⟨by rw [e.1]; exact hMs, e.2⟩)
    · show gd σ5 = gd σ
      rw [F5.2.1, ed]
    · have ha' : ¬ (293 ≤ a ∧ a < 455) := ha
      exact ⟨gi5 a (by omega) (by omega), gl5 a (by omega)⟩
    · show gr σ5 261 0 = some p
      rw [gn _ _ (fun e => by omega)]
      exact gp
  unfold wX1_keep
  rw [H2]
  refine ⟨fun h10 x1 e1 x2 e2 σ3 e3 x4 e4 σ5 e5 => ?_, fun h10 => ?_⟩
  · have hm10 : m = 10 := (nI_eq (a := m) (b := 10) (by omega) (by decide)).mp h10
    subst hm10
    rw [H1, nI_1] at e1
    subst e1
    have e3' : nI (s + 1) - nI (s + 1) / 10 * 10 = nI ((s + 1) % 10) := pk_rem (a := s + 1) (d := 10) (by omega) (by decide) (by decide)
    rw [e3'] at e2
    subst e2 e3
    have h92 : gi (si σ 293 1 (nI ((s + 1) % 10))) 293 2 = nI 10 := by rw [si_at, zu_ne (by decide)]; exact H2
    rw [h92] at e4
    have e4' : x4 = nI 9 := e4
    subst e4' e5
    refine go _ ((s + 1) % 10) 9 (fun i => h (i + 1)) (Nat.mod_lt _ (by decide)) (by decide) rfl rfl rfl (fun a ha => by rw [si_out _ _ ha, si_out _ _ ha]) ?_ ?_ (fun i hi => ?_) (fun i hi => ?_) ?_ rfl
    · rw [si_at, zu_ne (by decide), si_at, zu_self]
    · rw [si_at, zu_self]
    · have e : hslot ((s + 1) % 10) i = hslot s (i + 1) := by unfold hslot; omega
      rw [e]
      exact H3 (i + 1) (by omega)
    · show (if 10 = 10 then (if i < 9 then h (i + 1) else r) else _) = _
      rw [if_pos rfl, if_pos hi]
    · rfl
  · have hm10 : ¬ m = 10 := fun e => h10 (by rw [e]; rfl)
    refine go σ s m h hs (by omega) rfl rfl rfl (fun _ _ => rfl) H1 H2 H3 (fun i hi => ?_) ?_ (if_neg hm10)
    · show (if m = 10 then _ else if i < m then h i else r) = _
      rw [if_neg hm10, if_pos hi]
    · show (if m = 10 then _ else if m < m then h m else r) = _
      rw [if_neg hm10, if_neg (Nat.lt_irrefl m)]
theorem C_restore {ln : Nat → Nat} {σ : zS} {p m s : Nat} {h : Nat → Nat → Int32} (G : zHg (gr σ) ln) (SM : ∀ b, zIsM b → zMs (gr σ) ln b) (CP : zCap σ) (hm : m < 10) (hs : s < 10) (H : zHs σ p s (m + 1) h) (hW : zW (h m)) (h14 : h m 14 = 0 ∨ h m 14 = 1) {Q : zS → Prop} (hq : ∀ σ', zHs σ' p s m h → KM σ' 261 (h m) → zCap σ' → zFm (fun a => zB16 261 a ∨ a = 293) σ σ' → gr σ' 261 0 = some p → Q σ') : wX1_restore ln σ 293 261 Q := by
  obtain ⟨H1, H2, H3⟩ := H
  have hM1 : zIsM 261 := Or.inl rfl
  intro x1 e1
  rw [H2, nI_pred] at e1
  subst e1
  refine C_slot G hs hm H1 rfl ⟨fun h => absurd h (by simp), fun j4 e4 => ?_⟩
  obtain rfl := Option.some.inj e4
  have hbb := hslot_b s m
  obtain ⟨k1, k2⟩ := H3 m (by omega)
  refine C_copy (r := h m) (p := p) (SM _ hM1) (SM _ (hslot_M s m)) (by omega) k1 k2 hW h14 (CP _ hM1).1 (CP _ hM1).2 (fun σ5 K5 F5 => ?_)
  intro x6 e6 σ7 e7
  have e62 : gi σ5 293 2 = nI (m + 1) := by rw [(F5.2.2 293 (by omega)).1]; exact H2
  rw [e62, nI_pred] at e6
  subst e6 e7
  have gi5 : ∀ a, a ≠ 293 → ¬ (261 ≤ a ∧ a < 261 + 16) → gi (si σ5 293 2 (nI m)) a = gi σ a := fun a a1 a2 => by rw [si_out _ _ a1, (F5.2.2 a a2).1]
  have gl5 : ∀ a, ¬ (261 ≤ a ∧ a < 261 + 16) → gl (si σ5 293 2 (nI m)) a = gl σ a := fun a a2 => (F5.2.2 a a2).2
  have F := F5.m hM1
  have gn : ∀ a j, ¬ (a = 261 ∧ j = 0) → gr σ5 a j = gr σ a j := fun a j hn => by
    rw [F5.1, gr_sr]
    split
    · rename_i e
      rw [if_neg (fun e2 => hn ⟨e, e2⟩)]
    · rfl
  refine hq _ ⟨?_, ?_, fun i hi => ?_⟩ (KM_o K5 (fun a a1 a2 => ⟨si_out _ _ (by omega), rfl⟩)) (fun b hb => ?_) ⟨fun a j hn => F.1 a j hn, F.2.1, fun a ha => ?_⟩ ?_
  · rw [si_at, zu_ne (by decide), (F5.2.2 293 (by omega)).1]; exact H1
  · rw [si_at, zu_self]
  · obtain ⟨j1, j2⟩ := H3 i (by omega)
    have hb2 := hslot_b s i
    refine ⟨?_, KM_o j2 (fun a a1 a2 => ⟨gi5 a (by omega) (by omega), gl5 a (by omega)⟩)⟩
    show gr σ5 (hslot s i) 0 = some p
    rw [gn _ _ (fun e => by omega)]
    exact j1
  · by_cases e : b = 261
    · subst e
      have := KM_cap K5
      rw [si_out _ _ (by omega), si_out _ _ (by omega)]
      exact this
    · have := CP b hb
      have hd : 277 ≤ b ∧ ¬ (b ≤ 293 ∧ 293 < b + 16) := by
        rcases hb with rfl | rfl | ⟨i, hi, rfl⟩
        · exact absurd rfl e
        · omega
        · omega
      rw [gi5 _ (by omega) (by omega), gi5 _ (by omega) (by omega)]
      exact this
  · have h1 : ¬ (261 ≤ a ∧ a < 261 + 16) := fun e => ha (Or.inl e)
    have h2 : a ≠ 293 := fun e => ha (Or.inr e)
    exact ⟨gi5 a h2 h1, gl5 a h1⟩
  · show gr σ5 261 0 = some p
    rw [F5.1, gr_sr, if_pos rfl, if_pos rfl]
