/-! THE TEXT goes into the class's input, four characters to a word -/
theorem qr_or (a b : Nat) : nI a ||| nI b = nI (a ||| b) := by
  apply Int32.toBitVec_inj.1
  show BitVec.ofNat 32 a ||| BitVec.ofNat 32 b = BitVec.ofNat 32 (a ||| b)
  apply BitVec.eq_of_getLsbD_eq
  intro i hi
  simp [hi]
theorem shl_or {a c : Nat} (ha : a < 8388608) (hc : c < 256) : (nI a <<< ((8 : Int32) &&& 31)) ||| nI c = nI (a * 256 + c) := by
  rw [pk_shlN ((8 : Int32) &&& 31) 8 (by decide) (by omega), qr_or, show (2 : Nat) ^ 8 = 256 from rfl]
  congr 1
  have := Nat.two_pow_add_eq_or_of_lt (i := 8) (b := c) (by omega) a
  rw [show (2 : Nat) ^ 8 = 256 from rfl, Nat.mul_comm 256 a] at this
  exact this.symm
theorem and255 {x : Nat} (h : x < 2147483648) : nI x &&& 255 = nI (x % 256) := by
  rw [neq, n255, nI_toInt (by omega), nI_toInt (by omega)]
  omega
/-- the character at a place, a blank behind the end -/
def bT (T : List Int32) (j : Nat) : Nat := if j < T.length then (T.getD j 0).toInt.toNat else 32
theorem bT_lt {T : List Int32} (h : qA T) (j : Nat) : bT T j < 128 := by
  unfold bT
  split
  · have := h j (by assumption); omega
  · decide
theorem bT_in {T : List Int32} (h : qA T) {j : Nat} (hj : j < T.length) : T.getD j 0 = nI (bT T j) := by
  have := h j hj
  unfold bT
  rw [if_pos hj, neq, nI_toInt (by omega)]
  omega
theorem bT_out {T : List Int32} {j : Nat} (hj : ¬ j < T.length) : bT T j = 32 := if_neg hj
def pkn (b : Nat → Nat) (s : Nat) : Nat → Nat
  | 0 => 0
  | m + 1 => pkn b s m * 256 + b (s + m)
theorem pkn_lt {b : Nat → Nat} (hb : ∀ j, b j < 128) (s : Nat) : pkn b s 0 = 0 ∧ pkn b s 1 < 128 ∧ pkn b s 2 < 32768 ∧ pkn b s 3 < 8388608 ∧ pkn b s 4 < 2147483648 := by
  have h0 := hb s
  have h1 := hb (s + 1)
  have h2 := hb (s + 2)
  have h3 := hb (s + 3)
  refine ⟨rfl, ?_⟩
  simp only [pkn, Nat.add_zero]
  omega
theorem pkn_3 {b : Nat → Nat} (hb : ∀ j, b j < 128) (s : Nat) {m : Nat} (hm : m ≤ 3) : pkn b s m < 8388608 := by
  obtain ⟨h0, h1, h2, h3, -⟩ := pkn_lt hb s
  rcases (show m = 0 ∨ m = 1 ∨ m = 2 ∨ m = 3 by omega) with rfl | rfl | rfl | rfl <;> omega
theorem pkn_by {b : Nat → Nat} (hb : ∀ j, b j < 128) (s : Nat) : pkn b s 4 / 16777216 % 256 = b s ∧ pkn b s 4 / 65536 % 256 = b (s + 1) ∧ pkn b s 4 / 256 % 256 = b (s + 2) ∧ pkn b s 4 % 256 = b (s + 3) := by
  have h0 := hb s
  have h1 := hb (s + 1)
  have h2 := hb (s + 2)
  have h3 := hb (s + 3)
  simp only [pkn, Nat.add_zero]
  omega
theorem sh_by {w : Nat} (hw : w < 2147483648) : (nI w >>> ((24 : Int32) &&& 31)) &&& 255 = nI (w / 16777216 % 256) ∧ (nI w >>> ((16 : Int32) &&& 31)) &&& 255 = nI (w / 65536 % 256) ∧ (nI w >>> ((8 : Int32) &&& 31)) &&& 255 = nI (w / 256 % 256) ∧ (nI w >>> ((0 : Int32) &&& 31)) &&& 255 = nI (w % 256) := by
  have h24 : nI w >>> ((24 : Int32) &&& 31) = nI (w / 16777216) := pk_shrN hw _ 24 (by decide)
  have h16 : nI w >>> ((16 : Int32) &&& 31) = nI (w / 65536) := pk_shrN hw _ 16 (by decide)
  have h8 : nI w >>> ((8 : Int32) &&& 31) = nI (w / 256) := pk_shrN hw _ 8 (by decide)
  rw [h24, h16, h8, shr0, and255 (by omega), and255 (by omega), and255 (by omega), and255 hw]
  exact ⟨rfl, rfl, rfl, rfl⟩
theorem wd_by {b : Nat → Nat} (hb : ∀ j, b j < 128) (s : Nat) {j : Nat} (hj : j < 20) : wdB (nI (pkn b s 4)) (nI (pkn b (s + 4) 4)) (nI (pkn b (s + 8) 4)) (nI (pkn b (s + 12) 4)) (nI (pkn b (s + 16) 4)) j &&& 255 = nI (b (s + j)) := by
  have key : ∀ q : Nat, q < 5 → j / 4 = q → wdB (nI (pkn b s 4)) (nI (pkn b (s + 4) 4)) (nI (pkn b (s + 8) 4)) (nI (pkn b (s + 12) 4)) (nI (pkn b (s + 16) 4)) j = nI (pkn b (s + 4 * q) 4) >>> ((if j % 4 = 0 then (24 : Int32) else if j % 4 = 1 then 16 else if j % 4 = 2 then 8 else 0) &&& 31) := by
    intro q hq e
    unfold wdB
    rcases (show q = 0 ∨ q = 1 ∨ q = 2 ∨ q = 3 ∨ q = 4 by omega) with rfl | rfl | rfl | rfl | rfl
    · rw [if_pos e]; rfl
    · rw [if_neg (by omega), if_pos e]
    · rw [if_neg (by omega), if_neg (by omega), if_pos e]
    · rw [if_neg (by omega), if_neg (by omega), if_neg (by omega), if_pos e]
    · rw [if_neg (by omega), if_neg (by omega), if_neg (by omega), if_neg (by omega)]
  obtain ⟨q, hq, e⟩ : ∃ q, q < 5 ∧ j / 4 = q := ⟨j / 4, by omega, rfl⟩
  rw [key q hq e]
  obtain ⟨-, -, -, -, hw⟩ := pkn_lt hb (s + 4 * q)
  obtain ⟨b0, b1, b2, b3⟩ := pkn_by hb (s + 4 * q)
  obtain ⟨s0, s1, s2, s3⟩ := sh_by hw
  rcases (show j % 4 = 0 ∨ j % 4 = 1 ∨ j % 4 = 2 ∨ j % 4 = 3 by omega) with h | h | h | h
  · rw [if_pos h, s0, b0, show s + 4 * q = s + j by omega]
  · rw [if_neg (by omega), if_pos h, s1, b1, show s + 4 * q + 1 = s + j by omega]
  · rw [if_neg (by omega), if_neg (by omega), if_pos h, s2, b2, show s + 4 * q + 2 = s + j by omega]
  · rw [if_neg (by omega), if_neg (by omega), if_neg (by omega), s3, b3, show s + 4 * q + 3 = s + j by omega]
/-- only the ints of the cell a have changed -/
def q1 (a : Nat) (σ σ' : zS) : Prop := σ'.2 = σ.2 ∧ ∀ b, b ≠ a → gi σ' b = gi σ b
theorem q1.rf {a : Nat} {σ : zS} : q1 a σ σ := ⟨rfl, fun _ _ => rfl⟩
theorem q1.tr {a : Nat} {σ σ' σ'' : zS} (h : q1 a σ σ') (g : q1 a σ' σ'') : q1 a σ σ'' := ⟨g.1.trans h.1, fun b hb => (g.2 b hb).trans (h.2 b hb)⟩
theorem q1_si (a : Nat) (σ : zS) (k : Nat) (v : Int32) : q1 a σ (si σ a k v) := ⟨rfl, fun b hb => si_out _ _ hb⟩
theorem qS.q1 {S : zSp} {σ σ' : zS} {t a : Nat} {T : List Int32} (H : qS S σ t T) (ht : t < a) (ha : ∀ b, gr σ t 0 = some b → b < a) (F : q1 a σ σ') : qS S σ' t T ∧ ∀ b, gr σ' t 0 = some b → b < a := by
  obtain ⟨b, h1, h2, h3, h4, h5⟩ := H
  have eg : gr σ' = gr σ := by show σ'.2.1 = σ.2.1; rw [F.1]
  have hb := ha b h1
  rw [eg]
  exact ⟨⟨b, by rw [eg]; exact h1, h2, by rw [F.2 t (by omega)]; exact h3, fun k hk => by rw [F.2 b (by omega)]; exact h4 k hk, h5⟩, ha⟩
theorem q1.q {S : zSp} {σ σ' : zS} {a : Nat} (F : q1 a σ σ') (ha : 455 ≤ a) : q455 S S σ σ' := ⟨Nat.le_refl _, fun b hb => ⟨F.2 b (by omega), by show σ'.2.1 b = σ.2.1 b; rw [F.1], by show σ'.2.2.1 b = σ.2.2.1 b; rw [F.1]⟩, fun _ _ => rfl⟩
theorem qIn_o {σ σ' : zS} {n : Nat} {c : Nat → Int32} (I : qIn σ n c) (h1 : gi σ' 1 = gi σ 1) (h2 : gi σ' 2 = gi σ 2) : qIn σ' n c := ⟨by rw [h1]; exact I.1, fun k hk => by rw [h2]; exact I.2 k hk⟩
theorem a_20 {Q : Int32 → zSp → zS → Prop} {kb : Nat → Nat → Int32 → Int32 → zSp → zS → Prop} {S : zSp} {t a v : Nat} {T : List Int32} (hA : qA T) (hv : v ≤ 600) (hla : zSl S a = 5) (ht : t < a) : ∀ (d i : Nat) (σ : zS), i + d = 20 → qS S σ t T → (∀ b, gr σ t 0 = some b → b < a) → (∀ q, q < 5 → gi σ a q = nI (pkn (bT T) (v + 4 * q) (min 4 (i - 4 * q)))) → (∀ σ', q1 a σ σ' → qS S σ' t T → wX11_append (zSl S) σ' 0 (nI (pkn (bT T) v 4)) (nI (pkn (bT T) (v + 4) 4)) (nI (pkn (bT T) (v + 8) 4)) (nI (pkn (bT T) (v + 12) 4)) (nI (pkn (bT T) (v + 16) 4)) (fun r12 σ11 => ∀ x13 : Int32, x13 = nI v + 20 → kb 0 t r12 x13 S σ11)) → wL_append_20 Q kb (d + 1) 0 t (nI v) a (nI i) S σ
  | 0, i, σ, hi, H, hH, G, hq => by
    have i20 : i = 20 := by omega
    subst i20
    have g : ∀ q, q < 5 → gi σ a q = nI (pkn (bT T) (v + 4 * q) 4) := fun q hq5 => by rw [G q hq5, Nat.min_eq_left (by omega)]
    have vi : ∀ k, k < 5 → vp_in (nI k) (zSl S a) := fun k hk => by rw [hla]; exact vp_in_nI hk (by decide)
    rw [wL_append_20]
    refine ⟨fun _ => ⟨vi 0 (by decide), vi 1 (by decide), vi 2 (by decide), vi 3 (by decide), vi 4 (by decide), fun x6 e6 x7 e7 x8 e8 x9 e9 x10 e10 => ?_⟩, fun h => absurd (by decide) h⟩
    have e6' : x6 = nI (pkn (bT T) (v + 16) 4) := e6.trans (g 4 (by decide))
    have e7' : x7 = nI (pkn (bT T) (v + 12) 4) := e7.trans (g 3 (by decide))
    have e8' : x8 = nI (pkn (bT T) (v + 8) 4) := e8.trans (g 2 (by decide))
    have e9' : x9 = nI (pkn (bT T) (v + 4) 4) := e9.trans (g 1 (by decide))
    have e10' : x10 = nI (pkn (bT T) v 4) := e10.trans (g 0 (by decide))
    subst e6' e7' e8' e9' e10'
    exact hq σ q1.rf H
  | d + 1, i, σ, hi, H, hH, G, hq => by
    have hlen : T.length ≤ 142 := by obtain ⟨b, -, -, -, -, -, -, h7⟩ := H; exact h7
    have e4 : nI i / 4 = nI (i / 4) := nI_div (a := i) (b := 4) (by omega) (by decide) (by decide)
    have hx : ¬ (20 : Int32) ≤ nI i := nI_ge (a := i) (b := 20) (by omega) (by decide)
    have vi : vp_in (nI (i / 4)) (zSl S a) := by rw [hla]; exact vp_in_nI (by omega) (by decide)
    have gq : gi σ a (i / 4) = nI (pkn (bT T) (v + 4 * (i / 4)) (i % 4)) := by
      rw [G (i / 4) (by omega), Nat.min_eq_right (by omega), show i - 4 * (i / 4) = i % 4 by omega]
    have hlt := pkn_3 (bT_lt hA) (v + 4 * (i / 4)) (m := i % 4) (by omega)
    have hpos : v + 4 * (i / 4) + i % 4 = v + i := by omega
    have fin : ∀ w : Int32, w = nI (pkn (bT T) (v + 4 * (i / 4)) (i % 4 + 1)) → ∀ x22 : Int32, x22 = nI i + 1 → wL_append_20 Q kb (d + 1) 0 t (nI v) a x22 S (si σ a (i / 4) w) := by
      intro w hw x22 e22
      rw [nI_1] at e22
      subst e22 hw
      have F := q1_si a σ (i / 4) (nI (pkn (bT T) (v + 4 * (i / 4)) (i % 4 + 1)))
      obtain ⟨H', hH'⟩ := H.q1 ht hH F
      refine a_20 hA hv hla ht d (i + 1) _ (by omega) H' hH' (fun q hq5 => ?_) (fun σ' F' => hq σ' (F.tr F'))
      rw [si_at]
      by_cases e : q = i / 4
      · subst e
        rw [zu_self, Nat.min_eq_right (by omega), show i + 1 - 4 * (i / 4) = i % 4 + 1 by omega]
      · rw [zu_ne e, G q hq5]
        congr 2
        omega
    rw [wL_append_20]
    refine ⟨fun h => absurd h hx, fun _ x14 e14 => ?_⟩
    rw [e4] at e14
    subst e14
    refine ⟨vi, s_len H ⟨fun h x18 e18 x19 e19 => ?_, fun h x23 e23 => ?_⟩⟩
    · rw [e4] at e19
      subst e19
      refine ⟨vi, fun σ21 e21 x22 e22 => ?_⟩
      rw [nI_clamp (by omega)] at e21 e18
      subst e21
      refine fin _ ?_ x22 e22
      rw [nI_pl, nle, nI_toInt (by omega), nI_toInt (by omega)] at h
      rw [e18, gq, show (32 : Int32) = nI 32 from rfl, shl_or hlt (by decide), pkn, hpos, bT_out (by omega)]
    · rw [nI_pl] at e23 h
      subst e23
      rw [nle, nI_toInt (by omega), nI_toInt (by omega)] at h
      refine s_char H hA (k := v + i) (by omega) (fun x26 e26 x27 e27 => ?_)
      rw [e4] at e27
      subst e27
      refine ⟨vi, fun σ29 e29 x30 e30 => ?_⟩
      rw [nI_clamp (by omega)] at e29 e26
      subst e29
      refine fin _ ?_ x30 e30
      have hb := bT_lt hA (v + i)
      rw [e26, gq, bT_in hA (by omega), and255 (by omega), Nat.mod_eq_of_lt (show bT T (v + i) < 256 by omega), shl_or hlt (by omega), pkn, hpos]
theorem a_4 {Q : Int32 → zSp → zS → Prop} {t : Nat} {T : List Int32} (hA : qA T) {r : Nat → Int32} {N p p' s m : Nat} {h : Nat → Nat → Int32} : ∀ (d k : Nat) (v2 : Int32) (S : zSp) (σ : zS), T.length ≤ 20 * (k + d) → k + d ≤ 30 → qW S σ r N p p' s m h → qIn σ (20 * k) (fun j => nI (bT T j)) → qS S σ t T → (∀ k' v S' σ', T.length ≤ 20 * k' → k' ≤ 30 → qW S' σ' r N p p' s m h → qIn σ' (20 * k') (fun j => nI (bT T j)) → qS S' σ' t T → Q v S' σ') → wL_append_4 Q (d + 1) 0 t v2 (nI (20 * k)) S σ
  | 0, k, v2, S, σ, hl, hk, W, I, H, hq => by
    rw [wL_append_4]
    refine s_len H ⟨fun _ => hq k v2 S σ (by omega) (by omega) W I H, fun hx => absurd (nI_le (by omega) (by omega)) hx⟩
  | d + 1, k, v2, S, σ, hl, hk, W, I, H, hq => by
    rw [wL_append_4]
    refine s_len H ⟨fun e => ?_, fun e a3 e3 S3 eS3 σ4 e4 => ⟨21, ?_⟩⟩
    · have hlen : T.length ≤ 142 := by obtain ⟨b, -, -, -, -, -, -, h7⟩ := H; exact h7
      rw [nle, nI_toInt (by omega), nI_toInt (by omega)] at e
      exact hq k v2 S σ (by omega) (by omega) W I H
    · have X := qX_new S σ 20 5
      have hS := W.2.2.2.2.2.2.2
      have l5 : zSl (zSpush S 20 5) (zSk S) = 5 := zSl_new S 20 5
      have z : gi (zfresh σ (zSk S)) (zSk S) = fun _ => 0 := zfresh_0 σ _
      subst e3 eS3 e4
      have W4 := W.o (X.q hS)
      have H4 := H.x X
      have I4 : qIn (zfresh σ (zSk S)) (20 * k) (fun j => nI (bT T j)) := qIn_o I (X.2 1 (by omega)).2.2.1 (X.2 2 (by omega)).2.2.1
      have hH : t < zSk S ∧ ∀ b, gr (zfresh σ (zSk S)) t 0 = some b → b < zSk S := by
        obtain ⟨b, h1, h2, h3, h4, h5, h6, h7⟩ := H
        refine ⟨h5.2, fun c hc => ?_⟩
        rw [(X.2 t h5.2).2.1, h1] at hc
        injection hc with hc
        omega
      refine a_20 hA (v := 20 * k) (by omega) l5 hH.1 20 0 _ (by omega) H4 hH.2 (fun q hq5 => by rw [z, Nat.min_eq_right (by omega), show 0 - 4 * q = 0 by omega]; rfl) (fun σ' F' H' => ?_)
      have W' := W4.o (F'.q hS)
      have I' : qIn σ' (20 * k) (fun j => nI (bT T j)) := qIn_o I4 (F'.2 1 (by omega)) (F'.2 2 (by omega))
      refine q_append W' (n := 20 * k) (by omega) I' (fun σ2 F2 I2 x13 e13 => ?_)
      rw [show (20 : Int32) = nI 20 from rfl, nI_pl] at e13
      subst e13
      have H2 : qS (zSpush S 20 5) σ2 t T := by
        have ht := H'
        obtain ⟨b, h1, h2, h3, h4, h5, h6, h7⟩ := ht
        have eg : gr σ2 = gr σ' := by show σ2.2.1 = σ'.2.1; rw [F2.1]
        exact ⟨b, by rw [eg]; exact h1, h2, by rw [F2.2 t (by omega) (by omega)]; exact h3, fun j hj => by rw [F2.2 b (by omega) (by omega)]; exact h4 j hj, h5, h6, h7⟩
      refine a_4 hA d (k + 1) _ (zSpush S 20 5) σ2 (by omega) (by omega) (W'.in12 F2) ⟨I2.1, fun j hj => ?_⟩ H2 hq
      rw [I2.2 j hj]
      by_cases e : j < 20 * k
      · show (if j < 20 * k then _ else _) = _
        rw [if_pos e]
      · show (if j < 20 * k then _ else _) = _
        rw [if_neg e, wd_by (bT_lt hA) (20 * k) (by omega), show 20 * k + (j - 20 * k) = j by omega]
/-- the whole text stands in the input -/
theorem l_append {Q : Int32 → zSp → zS → Prop} {t : Nat} {T : List Int32} (hA : qA T) {r : Nat → Int32} {N p p' s m : Nat} {h : Nat → Nat → Int32} {S : zSp} {σ : zS} (hl : T.length ≤ 140) (W : qW S σ r N p p' s m h) (I : gi σ 1 1 = 0) (H : qS S σ t T) (hq : ∀ k v S' σ', T.length ≤ 20 * k → k ≤ 30 → qW S' σ' r N p p' s m h → qIn σ' (20 * k) (fun j => nI (bT T j)) → qS S' σ' t T → Q v S' σ') : wL_append S σ 0 t Q :=
  ⟨8, Nat.le_refl _, a_4 hA 7 0 0 S σ (by omega) (by decide) W ⟨I, fun k hk => absurd hk (Nat.not_lt_zero k)⟩ H hq⟩
