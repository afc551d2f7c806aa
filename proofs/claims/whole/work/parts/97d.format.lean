/-! CALLS: the formatted text -/
def cOk (t : List Int32) : Prop := ∀ k, k < t.length → 0 ≤ (t.getD k 0).toInt ∧ (t.getD k 0).toInt < 128
theorem cOk_app {t B : List Int32} (h : cOk t) (g : cOk B) : cOk (t ++ B) := by
  intro k hk
  rw [List.length_append] at hk
  rw [getD_app2]
  by_cases e : k < t.length
  · rw [if_pos e]; exact h k e
  · rw [if_neg e]; exact g _ (by omega)
theorem cOk_nil : cOk [] := fun k hk => absurd hk (Nat.not_lt_zero k)
theorem cOk_dl (v d : Nat) : cOk (dl v d) := fun k hk => by
  rw [dl_len] at hk
  rw [dl_get v d k hk]
  exact dg_b v _
theorem cOk_wd {s0 : Nat} (h : zWd4 s0) : cOk (zSbyt.getD s0 []) := fun k hk => by
  rw [h.1] at hk
  exact h.2.2 k hk
theorem cOk_one {c : Int32} (h : 0 ≤ c.toInt ∧ c.toInt < 128) : cOk [c] := fun k hk => by
  have hk : k < 1 := hk
  have e : k = 0 := by omega
  subst e
  exact h
/-- the buffer's characters in a row -/
def bl (r : Nat → Int32) : Nat → Nat → List Int32
  | 0, _ => []
  | d + 1, k => r (59 + k) :: bl r d (k + 1)
theorem bl_len (r : Nat → Int32) : ∀ d k, (bl r d k).length = d
  | 0, _ => rfl
  | d + 1, k => by rw [bl, List.length_cons, bl_len r d (k + 1)]
theorem cOk_bl {r : Nat → Int32} : ∀ (d k : Nat), (∀ j, k ≤ j → j < k + d → 0 ≤ (r (59 + j)).toInt ∧ (r (59 + j)).toInt < 128) → cOk (bl r d k)
  | 0, k, h => cOk_nil
  | d + 1, k, h => cOk_app (t := [r (59 + k)]) (cOk_one (h k (by omega) (by omega))) (cOk_bl d (k + 1) (fun j h1 h2 => h j (by omega) (by omega)))
theorem C_p24 {S0 : zSp} {σ0 : zS} {r : Nat → Int32} {m : Nat} (hS : 465 ≤ zSk S0) (g2 : gr σ0 0 2 = some 5) (g8 : gr σ0 269 0 = some 270) (l : zSl S0 270 = 40) (hm : gi σ0 269 1 = nI m) (hm2 : m ≤ 40) (he : ∀ k, k < m → gi σ0 270 k = r (59 + k)) (hb : ∀ k, k < m → 0 ≤ (r (59 + k)).toInt ∧ (r (59 + k)).toInt < 128) {Q : zSp → zS → Prop} : ∀ (d k : Nat) (t : List Int32) (S : zSp) (σ : zS), k + d = m → sbT S σ t 0 → sbF S0 σ0 S σ → t.length + d ≤ 100 → (∀ S' σ', sbT S' σ' (t ++ bl r d k) 0 → sbF S0 σ0 S' σ' → Q S' σ') → wX11_formatPrinting_24 Q (d + 1) 0 269 (nI k) S σ
  | 0, k, t, S, σ, hk, h, f, hl, hq => by
    have e : nI m ≤ nI k := nI_le (by omega) (by omega)
    rw [wX11_formatPrinting_24]
    unfold wX9_size
    rw [f.2.2.2.1 269 (by omega) (by omega) (by omega), hm]
    refine ⟨fun _ => hq S σ ?_ f, fun hx => absurd e hx⟩
    rw [bl, List.append_nil]
    exact h
  | d + 1, k, t, S, σ, hk, h, f, hl, hq => by
    have e : ¬ nI m ≤ nI k := nI_ge (by omega) (by omega)
    have i269 := f.2.2.2.1 269 (by omega) (by omega) (by omega)
    have i270 := f.2.2.2.1 270 (by omega) (by omega) (by omega)
    have hc := hb k (by omega)
    rw [wX11_formatPrinting_24]
    unfold wX9_size
    rw [i269, hm]
    refine ⟨fun hx => absurd hx e, fun _ => ⟨5, by rw [f.2.2.1 0 2 (by omega) (by omega)]; exact g2, ?_⟩⟩
    refine w_rget (by rw [f.2.2.1 269 0 (by omega) (by omega)]; exact g8) (by rw [f.2.1 270 (by omega)]; exact l) (by decide) (by rw [i269]; exact hm) hm2 rfl (show k < m by omega) ?_
    rw [i270, he k (by omega)]
    intro x6 e6
    rw [chr_id hc.1 (by omega)] at e6
    subst e6
    refine sbT_char h (by omega) hc (fun S' σ' h' f' x9 e9 => ?_)
    rw [nI_1] at e9
    subst e9
    refine C_p24 hS g2 g8 l hm hm2 he hb d (k + 1) (t ++ [r (59 + k)]) S' σ' (by omega) h' (f.tr f') (by rw [List.length_append]; show t.length + 1 + d ≤ 100; omega) (fun S2 σ2 h2 f2 => hq S2 σ2 ?_ f2)
    rw [List.append_assoc] at h2
    exact h2
theorem M_145 {ln : Nat → Nat} {r : Nat → Int32} {m : Nat} (h11 : r 11 = nI m) (hm2 : m ≤ 40) {Q : Int32 → zS → Prop} : ∀ (d k : Nat) (t : List Int32) (σ : zS), k + d = m → zMg (gr σ) ln → gi σ 456 = r → mT σ t → t.length + d ≤ 100 → (∀ σ', mT σ' (t ++ bl r d k) → mTf σ σ' → Q (gi σ' 455 11) σ') → wX12_format_145 ln Q (d + 1) 455 (nI k) σ
  | 0, k, t, σ, hk, G, er, h, hl, hq => by
    have e : nI m ≤ nI k := nI_le (by omega) (by omega)
    rw [wX12_format_145]
    refine ⟨456, G.1.1, by rw [G.2.1]; exact vq11, ?_⟩
    rw [cq11, er, h11]
    refine ⟨fun _ => hq σ ?_ mTf.rf, fun hx => absurd e hx⟩
    rw [bl, List.append_nil]
    exact h
  | d + 1, k, t, σ, hk, G, er, h, hl, hq => by
    have e : ¬ nI m ≤ nI k := nI_ge (by omega) (by omega)
    rw [wX12_format_145]
    refine ⟨456, G.1.1, by rw [G.2.1]; exact vq11, ?_⟩
    rw [cq11, er, h11]
    refine ⟨fun hx => absurd hx e, fun _ => ⟨456, G.1.1, fun x4 e4 => ?_⟩⟩
    have e4' : x4 = nI (59 + k) := by rw [e4]; exact nI_plus 59 k
    subst e4'
    refine ⟨by rw [G.2.1]; exact vp_in_nI (by omega) (by omega), fun x6 e6 => ?_⟩
    rw [nI_clamp (by omega), er] at e6
    subst e6
    refine M_put G h (by omega) (fun σ7 h7 f7 x8 e8 => ?_)
    rw [nI_1] at e8
    subst e8
    refine M_145 h11 hm2 d (k + 1) (t ++ [r (59 + k)]) σ7 (by omega) (by rw [f7.r]; exact G) (by rw [f7.2.1 456 (by decide) (by decide)]; exact er) h7 (by rw [List.length_append]; show t.length + 1 + d ≤ 100; omega) (fun σ8 h8 f8 => hq σ8 ?_ (f7.tr f8))
    rw [List.append_assoc] at h8
    exact h8
theorem w31 : (zSbyt.getD 31 []).length = 2 := zWd4_31.1.1
theorem w32 : (zSbyt.getD 32 []).length = 6 := zWd4_31.2.1.1
theorem w33 : (zSbyt.getD 33 []).length = 7 := zWd4_31.2.2.1.1
theorem w34 : (zSbyt.getD 34 []).length = 8 := zWd4_31.2.2.2.1
/-- the world after a text -/
theorem fmt_fin {S S' : zSp} {σ σ2 : zS} {N p p' s m : Nat} {h : Nat → Nat → Int32} (W : zWp S σ N p p' s m h) {K : Int32 → Int32 → zSp → zS → Prop} (hK : ∀ S' k b σ', zWd S' σ' N → gi σ' 455 0 = k → (k = 0 → gl σ' 463 0 = b.toInt64) → K k b S' σ') {t : List Int32} (h2 : sbT S' σ2 t 0) (f2 : sbF S σ S' σ2) (c2 : cOk t) (hl : t.length ≤ 100) {σ5 : zS} (h5 : mT σ5 t) (f5 : mTf (si (si (sl σ2 463 0 (nI t.length).toInt64) 455 0 0) 455 11 0) σ5) : K 0 (gi σ5 455 11) S' σ5 := by
  obtain ⟨_, _, _, _, _, _, k465, _⟩ := W.2.2.2.2.2.2.2.2
  rw [h5.1]
  have g5 : gr σ5 = gr σ2 := f5.r
  have i5 : ∀ a, a ≠ 455 → a ≠ 461 → gi σ5 a = gi σ2 a := fun a x1 x2 => by
    rw [f5.2.1 a x1 x2, si_out _ _ x1, si_out _ _ x1]
    rfl
  have l5 : gl σ5 = gl (sl σ2 463 0 (nI t.length).toInt64) := by
    show σ5.2.2.1 = _
    rw [f5.1]
    rfl
  have j5 : ∀ j, j ≠ 0 → j ≠ 11 → gi σ5 455 j = gi σ 455 j := fun j x1 x2 => by
    rw [f5.2.2 j x2, si_at, zu_ne x2, si_at, zu_ne x1]
    show gi σ2 455 j = _
    rw [f2.2.2.2.1 455 (by omega) (by omega) (by omega)]
  refine hK S' _ _ _ ⟨p, p', s, m, h, zWp_sb W (fun a ha => f2.2.1 a (by omega)) (fun a j x1 x2 => by rw [g5]; exact f2.2.2.1 a j x1 x2) (fun a x1 x2 x3 => by rw [i5 a (by omega) (by omega)]; exact f2.2.2.2.1 a (by omega) x2 x3) (fun a ha => by rw [i5 a (by omega) (by omega)]; exact f2.2.2.2.1 a (by omega) (by omega) (by omega)) (fun a ha => ?_) (fun j hj => j5 j (by omega) (by omega)) ?_⟩ ?_ (fun _ => ?_)
  · rw [l5]
    funext j
    rw [gl_sl, if_neg (by omega)]
    exact congrFun (f2.2.2.2.2 a (by omega)).1 j
  · obtain ⟨a, q1, q2, q3, q4, q5, q6, q7, q8, q9, q10⟩ := h2
    refine ⟨a, t.length, by rw [g5]; exact q1, q2, q3, q4, q5, by rw [i5 5 (by decide) (by decide)]; exact q6, by rw [i5 5 (by decide) (by decide)]; exact q7, h5.1, hl, by omega, fun k hk => ?_, fun k hk => ?_⟩
    · rw [i5 a (by omega) (by omega), q9 k hk, h5.2 k hk]
      exact ⟨rfl, c2 k hk⟩
    · rw [i5 a (by omega) (by omega)]; exact q10 k hk
  · rw [f5.2.2 0 (by decide), si_at, zu_ne (by decide), si_at, zu_self]
  · rw [l5, gl_sl, if_pos rfl, if_pos rfl]
