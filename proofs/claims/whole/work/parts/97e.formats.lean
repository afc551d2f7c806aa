/-! CALLS: format -/
theorem l31 : zSlen.getD 31 0 = 2 := rfl
theorem l32 : zSlen.getD 32 0 = 6 := rfl
theorem l33 : zSlen.getD 33 0 = 7 := rfl
theorem l34 : zSlen.getD 34 0 = 8 := rfl
theorem M_dig {ln : Nat → Nat} {v d : Nat} {x : Int32} (hx : x = nI v) (hd : zdgt v d) {σ : zS} (G : zMg (gr σ) ln) {t : List Int32} (h : mT σ t) (hl : t.length + d ≤ 100) {Q : zS → Prop} (hq : ∀ σ', mT σ' (t ++ dl v d) → mTf σ σ' → Q σ') : wX12_digits ln σ 455 x Q := by
  subst hx
  exact M_digits hd G h hl hq
theorem sbT_i {S : zSp} {σ : zS} {t : List Int32} (h : sbT S σ t 0) {v d : Nat} {x : Int32} (hx : x = nI v) (hd : zdgt v d) (hl : t.length + d ≤ 100) {Q : Nat → zSp → zS → Prop} (hq : ∀ S' σ', sbT S' σ' (t ++ dl v d) 0 → sbF S σ S' σ' → Q 5 S' σ') : wJ4_append_bf812 S σ 5 x Q := by
  subst hx
  exact sbT_int h hd hl hq
theorem sbT.n {S : zSp} {σ : zS} {t : List Int32} {m : Nat} (h : sbT S σ t m) : gi σ 5 3 = nI t.length := by
  obtain ⟨a, q1, q2, q3, q4, q5, q6, q7, q8⟩ := h
  exact q7
theorem zWp.v' {S S' : zSp} {σ σ2 : zS} {N p p' s m : Nat} {h : Nat → Nat → Int32} (W : zWp S σ N p p' s m h) (f : sbF S σ S' σ2) (k : 465 ≤ zSk S) {x : Int32} (hx : vp_in x 4763) : vp_in x (zSl S' 456) := by
  rw [f.2.1 456 (by omega), W.mg.2.1]
  exact hx
theorem L_format {S : zSp} {σ : zS} {N : Nat} (W : zWd S σ N) {v : Int32} {K : Int32 → Int32 → zSp → zS → Prop} (hK : ∀ S' k b σ', zWd S' σ' N → gi σ' 455 0 = k → (k = 0 → gl σ' 463 0 = b.toInt64) → K k b S' σ') : wL_format S σ 0 v 463 (fun r5 S4 σ4 => wX12_format (zSl S4) σ4 455 v (fun r10 σ9 => K r5 r10 S4 σ9)) := by
  obtain ⟨p, p', s, m, h, W⟩ := W
  have B : zSB S σ := W.2.2.2.2.2.2.2.2
  have k465 : 465 ≤ zSk S := by
    obtain ⟨_, _, _, _, _, _, k, _⟩ := B
    exact k
  have g2 : gr σ 0 2 = some 5 := W.1.1.2.2.1
  have K1 := W.km
  have X1 := W.x
  have thr : ¬ (v = 0 ∨ v = 1) → wX12_format (zSl S) σ 455 v (fun r10 σ9 => K 1 r10 S σ9) := by
    intro hv σ1 e1
    subst e1
    exact n_isOffice (fun h => absurd h hv) (fun _ => ⟨fun _ => n_raise (W.thr (K := fun k b σ' => K k b S σ') (fun k b σ' w t g => hK S k b σ' w t g) (by decide)), fun h => absurd rfl h⟩)
  have hb := W.w.b
  have cb := ncl hb.1
  have main : ∀ q c : Nat, (v = 0 ∧ q = 0 ∨ v = 1 ∧ q = 1) → c < 455 → c ≠ 5 → c ≠ 6 → gi σ c 0 = gi σ 456 (21 + q) → gi σ c 1 = gi σ 456 (23 + q) → gi σ c 2 = gi σ 456 (27 + q) → ∃ j3 : Nat, gr σ 0 2 = some j3 ∧ wJ4_setLength_d00df S σ j3 0 (fun S4 σ4 => ∃ j6 : Nat, gr σ4 0 2 = some j6 ∧ wJ4_append_bf812 S4 σ4 j6 v (fun r8 S7 σ7 => ∃ j9 : Nat, gr σ7 0 2 = some j9 ∧ wJ4_append_15ec4 S7 σ7 j9 31 (fun r12 S11 σ11 => ∃ j13 : Nat, gr σ11 0 2 = some j13 ∧ ∀ x14 : Int32, x14 = gi σ11 c 0 → wJ4_append_bf812 S11 σ11 j13 x14 (fun r16 S15 σ15 => ∃ j17 : Nat, gr σ15 0 2 = some j17 ∧ wJ4_append_cf468 S15 σ15 j17 43 (fun r19 S18 σ18 => ∃ j20 : Nat, gr σ18 0 2 = some j20 ∧ ∀ x21 : Int32, x21 = gi σ18 c 1 → wJ4_append_bf812 S18 σ18 j20 x21 (fun r23 S22 σ22 => ∃ j24 : Nat, gr σ22 0 3 = some j24 ∧ (((gi σ22 j24 3) = v → wX11_formatSending S22 σ22 0 c (fun S29 σ29 => wxX11_format_102 (fun r2 S1 σ1 => ∀ x6 : Int64, x6 = r2.toInt64 → vp_in (0 : Int32) ((zSl S1) 463) ∧ ∀ σ8 : zS, σ8 = sl σ1 463 (0 : Int32).toNatClampNeg x6 → wX12_format (zSl S1) σ8 455 v (fun r10 σ9 => K 0 r10 S1 σ9)) (fun E5 σ3 => E5 = "java/lang/IndexOutOfBoundsException" ∧ wX12_format (zSl S) σ3 455 v (fun r10 σ9 => K 1 r10 S σ9)) 0 S29 σ29)) ∧ (¬ (gi σ22 j24 3) = v → ∃ j25 : Nat, gr σ22 0 3 = some j25 ∧ (((gi σ22 j25 3) = (-1) → wxX11_format_102 (fun r2 S1 σ1 => ∀ x6 : Int64, x6 = r2.toInt64 → vp_in (0 : Int32) ((zSl S1) 463) ∧ ∀ σ8 : zS, σ8 = sl σ1 463 (0 : Int32).toNatClampNeg x6 → wX12_format (zSl S1) σ8 455 v (fun r10 σ9 => K 0 r10 S1 σ9)) (fun E5 σ3 => E5 = "java/lang/IndexOutOfBoundsException" ∧ wX12_format (zSl S) σ3 455 v (fun r10 σ9 => K 1 r10 S σ9)) 0 S22 σ22) ∧ (¬ (gi σ22 j25 3) = (-1) → wX11_formatPrinting S22 σ22 0 (fun S26 σ26 => wxX11_format_102 (fun r2 S1 σ1 => ∀ x6 : Int64, x6 = r2.toInt64 → vp_in (0 : Int32) ((zSl S1) 463) ∧ ∀ σ8 : zS, σ8 = sl σ1 463 (0 : Int32).toNatClampNeg x6 → wX12_format (zSl S1) σ8 455 v (fun r10 σ9 => K 0 r10 S1 σ9)) (fun E5 σ3 => E5 = "java/lang/IndexOutOfBoundsException" ∧ wX12_format (zSl S) σ3 455 v (fun r10 σ9 => K 1 r10 S σ9)) 0 S26 σ26))))))))))) := by
    intro q c hq hc1 hc2 hc3 hc0 hc4 hc5
    have hph := W.w.ph2 (q := q) (by omega)
    have hrt := W.w.rt (q := q) (by omega)
    have hNb := W.w.N
    have hD : 0 ≤ (gi σ 456 (27 + q)).toInt ∧ (gi σ 456 (27 + q)).toInt ≤ 12 := by
      have d0 := W.w.D0
      have d1 := W.w.D1
      have l0 := W.w.L0
      have l1 := W.w.L1
      rcases hq with ⟨_, rfl⟩ | ⟨_, rfl⟩
      · exact ⟨d0.1, by show (gi σ 456 27).toInt ≤ 12; omega⟩
      · exact ⟨d1.1, by show (gi σ 456 28).toInt ≤ 12; omega⟩
    have nat : ∀ {x : Int32}, 0 ≤ x.toInt → x = nI x.toNatClampNeg := fun {x} hx => by
      have h1 := ncl hx
      have h2 := nrange x
      rw [neq, nI_toInt (by omega)]
      omega
    have ev : v = nI q := by
      rcases hq with ⟨e1, e2⟩ | ⟨e1, e2⟩
      · rw [e1, e2]; rfl
      · rw [e1, e2]; rfl
    have cP := ncl hph.1
    have cR := ncl (a := gi σ 456 (23 + q)) (by omega)
    have cD := ncl hD.1
    obtain ⟨dq, hdq⟩ := zdgt_ex (v := q) (by omega)
    obtain ⟨dP, hdP⟩ := zdgt_ex (v := (gi σ 456 (21 + q)).toNatClampNeg) (by omega)
    obtain ⟨dR, hdR⟩ := zdgt_ex (v := (gi σ 456 (23 + q)).toNatClampNeg) (by omega)
    obtain ⟨dD, hdD⟩ := zdgt_ex (v := (gi σ 456 (27 + q)).toNatClampNeg) (by omega)
    have eP := nat hph.1
    have eR := nat (x := gi σ 456 (23 + q)) (by omega)
    have eD := nat hD.1
    have e11 := nat hb.1
    generalize (gi σ 456 (21 + q)).toNatClampNeg = P at hdP eP
    generalize (gi σ 456 (23 + q)).toNatClampNeg = R at hdR eR
    generalize (gi σ 456 (27 + q)).toNatClampNeg = D at hdD eD
    have b1 := hdq.2.1
    have b2 := hdP.2.1
    have b3 := hdR.2.1
    have b4 := hdD.2.1
    have o43 : cOk [43] := cOk_one (by decide)
    have okT : cOk ((((([] ++ dl q dq) ++ zSbyt.getD 31 []) ++ dl P dP) ++ [43]) ++ dl R dR) := cOk_app (cOk_app (cOk_app (cOk_app (cOk_app cOk_nil (cOk_dl _ _)) (cOk_wd zWd4_31.1)) (cOk_dl _ _)) o43) (cOk_dl _ _)
    have hbuf : ∀ k, k < (gi σ 456 11).toNatClampNeg → 0 ≤ (gi σ 456 (59 + k)).toInt ∧ (gi σ 456 (59 + k)).toInt < 128 := X1.2.2.2.2.2.2.2.1
    have mod : ∀ (tt : List Int32) S' σ2, sbT S' σ2 tt 0 → sbF S σ S' σ2 → cOk tt → tt.length ≤ 100 → ((gi σ 456 6 = v ∧ gi σ 456 7 = 1 ∧ tt = (((((([] ++ dl q dq) ++ zSbyt.getD 31 []) ++ dl P dP) ++ [43]) ++ dl R dR) ++ zSbyt.getD 32 [])) ∨ (gi σ 456 6 = v ∧ ¬ gi σ 456 7 = 1 ∧ tt = ((((((([] ++ dl q dq) ++ zSbyt.getD 31 []) ++ dl P dP) ++ [43]) ++ dl R dR) ++ zSbyt.getD 33 []) ++ dl D dD)) ∨ (¬ gi σ 456 6 = v ∧ gi σ 456 6 = -1 ∧ tt = ((((([] ++ dl q dq) ++ zSbyt.getD 31 []) ++ dl P dP) ++ [43]) ++ dl R dR)) ∨ (¬ gi σ 456 6 = v ∧ ¬ gi σ 456 6 = -1 ∧ tt = ((((((([] ++ dl q dq) ++ zSbyt.getD 31 []) ++ dl P dP) ++ [43]) ++ dl R dR) ++ zSbyt.getD 34 []) ++ bl (gi σ 456) (gi σ 456 11).toNatClampNeg 0))) → wX12_format (zSl S') (sl σ2 463 0 (nI tt.length).toInt64) 455 v (fun r10 σ9 => K 0 r10 S' σ9) := by
      intro tt S' σ2 t2 f2 c2 hl2 hcase σ3 e3
      subst e3
      refine n_isOffice (fun _ => ⟨fun h => absurd h (by decide), fun _ σ4 e4 => ?_⟩) (fun hn => absurd (hq.elim (fun x => Or.inl x.1) (fun x => Or.inr x.1)) hn)
      subst e4
      have G0 : zMg (gr (si (si (sl σ2 463 0 (nI tt.length).toInt64) 455 0 0) 455 11 0)) (zSl S') := (zST_l (zST_g W.1 (fun a j h1 h2 => f2.2.2.1 a j h1 h2)) (fun a ha => f2.2.1 a (by omega))).2.2.2.2.2.2
      have r0 : gi (si (si (sl σ2 463 0 (nI tt.length).toInt64) 455 0 0) 455 11 0) 456 = gi σ 456 := by
        rw [si_out _ _ (by decide), si_out _ _ (by decide)]
        exact f2.2.2.2.1 456 (by decide) (by decide) (by decide)
      have h0 : mT (si (si (sl σ2 463 0 (nI tt.length).toInt64) 455 0 0) 455 11 0) [] := ⟨by rw [si_at, zu_self]; rfl, fun k hk => absurd hk (Nat.not_lt_zero k)⟩
      have fin : ∀ τ, mT τ tt → mTf (si (si (sl σ2 463 0 (nI tt.length).toInt64) 455 0 0) 455 11 0) τ → K 0 (gi τ 455 11) S' τ := fun τ hτ fτ => fmt_fin W hK t2 f2 c2 hl2 hτ fτ
      generalize (si (si (sl σ2 463 0 (nI tt.length).toInt64) 455 0 0) 455 11 0) = τ0 at G0 r0 h0 fin
      have Gk : ∀ {τ : zS}, mTf τ0 τ → zMg (gr τ) (zSl S') := fun f => by rw [f.r]; exact G0
      have rk : ∀ {τ : zS}, mTf τ0 τ → gi τ 456 = gi σ 456 := fun f => (f.2.1 456 (by decide) (by decide)).trans r0
      refine M_dig ev hdq G0 h0 (by simp only [List.length_append, List.length_nil, List.length_cons, dl_len, bl_len, w31, w32, w33, w34, l31, l32, l33, l34]; omega) (fun τ1 h1 f1 => M_says zWd4_31.1 (Gk f1) h1 (by simp only [List.length_append, List.length_nil, List.length_cons, dl_len, bl_len, w31, w32, w33, w34, l31, l32, l33, l34]; omega) (fun τ2 h2 g2' => ?_))
      have F2 := f1.tr g2'
      refine ⟨456, (Gk F2).1.1, fun x9 e9 => ?_⟩
      subst e9
      refine ⟨W.v' f2 k465 (oix hq 21 (by decide)).2, fun x11 y11 => ?_⟩
      rw [show ((21 : Int32) + v).toNatClampNeg = 21 + q from (oix hq 21 (by decide)).1, rk F2] at y11
      refine M_dig (y11.trans eP) hdP (Gk F2) h2 (by simp only [List.length_append, List.length_nil, List.length_cons, dl_len, bl_len, w31, w32, w33, w34, l31, l32, l33, l34]; omega) (fun τ3 h3 g3' => M_put (Gk (F2.tr g3')) h3 (by simp only [List.length_append, List.length_nil, List.length_cons, dl_len, bl_len, w31, w32, w33, w34, l31, l32, l33, l34]; omega) (fun τ4 h4 g4' => ?_))
      have F4 := (F2.tr g3').tr g4'
      refine ⟨456, (Gk F4).1.1, fun x15 e15 => ?_⟩
      subst e15
      refine ⟨W.v' f2 k465 (oix hq 23 (by decide)).2, fun x17 y17 => ?_⟩
      rw [show ((23 : Int32) + v).toNatClampNeg = 23 + q from (oix hq 23 (by decide)).1, rk F4] at y17
      refine M_dig (y17.trans eR) hdR (Gk F4) h4 (by simp only [List.length_append, List.length_nil, List.length_cons, dl_len, bl_len, w31, w32, w33, w34, l31, l32, l33, l34]; omega) (fun τ5 h5 g5' => ?_)
      have F5 := F4.tr g5'
      refine ⟨456, (Gk F5).1.1, W.v' f2 k465 vq6, ?_⟩
      rw [cq6, rk F5]
      rcases hcase with ⟨c6, c7, ett⟩ | ⟨c6, c7, ett⟩ | ⟨c6, c7, ett⟩ | ⟨c6, c7, ett⟩
      · refine ⟨fun _ => ⟨456, (Gk F5).1.1, W.v' f2 k465 vq7, ?_⟩, fun hx => absurd c6 hx⟩
        rw [cq7, rk F5]
        exact ⟨fun _ => M_says zWd4_31.2.1 (Gk F5) h5 (by simp only [List.length_append, List.length_nil, List.length_cons, dl_len, bl_len, w31, w32, w33, w34, l31, l32, l33, l34]; omega) (fun τ6 h6 g6' => fin τ6 (by rw [ett]; exact h6) (F5.tr g6')), fun hx => absurd c7 hx⟩
      · refine ⟨fun _ => ⟨456, (Gk F5).1.1, W.v' f2 k465 vq7, ?_⟩, fun hx => absurd c6 hx⟩
        rw [cq7, rk F5]
        refine ⟨fun hx => absurd hx c7, fun _ => ⟨456, (Gk F5).1.1, W.v' f2 k465 vq6, ?_⟩⟩
        rw [cq6, rk F5]
        refine ⟨fun _ => M_says zWd4_31.2.2.1 (Gk F5) h5 (by simp only [List.length_append, List.length_nil, List.length_cons, dl_len, bl_len, w31, w32, w33, w34, l31, l32, l33, l34]; omega) (fun τ6 h6 g6' => ?_), fun hx => absurd c6 hx⟩
        have F6 := F5.tr g6'
        refine ⟨456, (Gk F6).1.1, fun x12 e12 => ?_⟩
        subst e12
        refine ⟨W.v' f2 k465 (oix hq 27 (by decide)).2, fun x14 y14 => ?_⟩
        rw [show ((27 : Int32) + v).toNatClampNeg = 27 + q from (oix hq 27 (by decide)).1, rk F6] at y14
        exact M_dig (y14.trans eD) hdD (Gk F6) h6 (by simp only [List.length_append, List.length_nil, List.length_cons, dl_len, bl_len, w31, w32, w33, w34, l31, l32, l33, l34]; omega) (fun τ7 h7 g7' => fin τ7 (by rw [ett]; exact h7) (F6.tr g7'))
      · refine ⟨fun hx => absurd hx c6, fun _ => ⟨456, (Gk F5).1.1, W.v' f2 k465 vq6, ?_⟩⟩
        rw [cq6, rk F5]
        refine ⟨fun hx => absurd hx c6, fun _ => M_isSender (Gk F5) ?_⟩
        rw [rk F5, if_pos c7]
        exact ⟨fun _ => fin τ5 (by rw [ett]; exact h5) F5, fun hx => absurd rfl hx⟩
      · refine ⟨fun hx => absurd hx c6, fun _ => ⟨456, (Gk F5).1.1, W.v' f2 k465 vq6, ?_⟩⟩
        rw [cq6, rk F5]
        refine ⟨fun hx => absurd hx c6, fun _ => M_isSender (Gk F5) ?_⟩
        rw [rk F5, if_neg c7]
        refine ⟨fun hx => absurd hx (by decide), fun _ => M_says zWd4_31.2.2.2 (Gk F5) h5 (by simp only [List.length_append, List.length_nil, List.length_cons, dl_len, bl_len, w31, w32, w33, w34, l31, l32, l33, l34]; omega) (fun τ6 h6 g6' => ⟨(gi σ 456 11).toNatClampNeg + 1, ?_⟩)⟩
        have F6 := F5.tr g6'
        exact M_145 (r := gi σ 456) e11 (by omega) (gi σ 456 11).toNatClampNeg 0 _ τ6 (by omega) (Gk F6) (rk F6) h6 (by simp only [List.length_append, List.length_nil, List.length_cons, dl_len, bl_len, w31, w32, w33, w34, l31, l32, l33, l34]; omega) (fun τ7 h7 g7' => fin τ7 (by rw [ett]; exact h7) (F6.tr g7'))
    have outp : ∀ (tt : List Int32) S' σ2, sbT S' σ2 tt 0 → sbF S σ S' σ2 → wX12_format (zSl S') (sl σ2 463 0 (nI tt.length).toInt64) 455 v (fun r10 σ9 => K 0 r10 S' σ9) → wxX11_format_102 (fun r2 S1 σ1 => ∀ x6 : Int64, x6 = r2.toInt64 → vp_in (0 : Int32) ((zSl S1) 463) ∧ ∀ σ8 : zS, σ8 = sl σ1 463 (0 : Int32).toNatClampNeg x6 → wX12_format (zSl S1) σ8 455 v (fun r10 σ9 => K 0 r10 S1 σ9)) (fun E5 σ3 => E5 = "java/lang/IndexOutOfBoundsException" ∧ wX12_format (zSl S) σ3 455 v (fun r10 σ9 => K 1 r10 S σ9)) 0 S' σ2 := by
      intro tt S' σ2 t2 f2 hm
      unfold wxX11_format_102 wJ4_length_8abf5 wJ5_length_8abf5
      refine ⟨5, by rw [f2.2.2.1 0 2 (by omega) (by omega)]; exact g2, ?_⟩
      rw [t2.n]
      intro x6 e6
      subst e6
      refine ⟨by rw [f2.2.1 463 (by omega), W.l463]; exact nin (by decide) (by decide), fun σ8 e8 => ?_⟩
      subst e8
      exact hm
    refine ⟨5, g2, sbT_clear B (fun σ1 t1 f1 => ⟨5, by rw [f1.2.2.1 0 2 (by omega) (by omega)]; exact g2, sbT_i t1 ev hdq (by simp only [List.length_append, List.length_nil, List.length_cons, dl_len, bl_len, w31, w32, w33, w34, l31, l32, l33, l34]; omega) (fun S2 σ2 t2 f2 => ?_)⟩)⟩
    have F2 := f1.tr f2
    refine ⟨5, by rw [F2.2.2.1 0 2 (by omega) (by omega)]; exact g2, sbT_str t2 zWd4_31.1 (by simp only [List.length_append, List.length_nil, List.length_cons, dl_len, bl_len, w31, w32, w33, w34, l31, l32, l33, l34]; omega) (fun S3 σ3 t3 f3 => ?_)⟩
    have F3 := F2.tr f3
    refine ⟨5, by rw [F3.2.2.1 0 2 (by omega) (by omega)]; exact g2, fun x14 e14 => ?_⟩
    rw [F3.2.2.2.1 c (by omega) hc2 hc3, hc0] at e14
    refine sbT_i t3 (e14.trans eP) hdP (by simp only [List.length_append, List.length_nil, List.length_cons, dl_len, bl_len, w31, w32, w33, w34, l31, l32, l33, l34]; omega) (fun S4 σ4 t4 f4 => ?_)
    have F4 := F3.tr f4
    refine ⟨5, by rw [F4.2.2.1 0 2 (by omega) (by omega)]; exact g2, sbT_char t4 (by simp only [List.length_append, List.length_nil, List.length_cons, dl_len, bl_len, w31, w32, w33, w34, l31, l32, l33, l34]; omega) (by decide) (fun S5 σ5 t5 f5 => ?_)⟩
    have F5 := F4.tr f5
    refine ⟨5, by rw [F5.2.2.1 0 2 (by omega) (by omega)]; exact g2, fun x21 e21 => ?_⟩
    rw [F5.2.2.2.1 c (by omega) hc2 hc3, hc4] at e21
    refine sbT_i t5 (e21.trans eR) hdR (by simp only [List.length_append, List.length_nil, List.length_cons, dl_len, bl_len, w31, w32, w33, w34, l31, l32, l33, l34]; omega) (fun S6 σ6 t6 f6 => ?_)
    have F6 := F5.tr f6
    have g3 : gr σ6 0 3 = some 261 := by rw [F6.2.2.1 0 3 (by omega) (by omega)]; exact W.g3
    have g5 : gr σ6 0 2 = some 5 := by rw [F6.2.2.1 0 2 (by omega) (by omega)]; exact g2
    have i261 : gi σ6 261 = gi σ 261 := F6.2.2.2.1 261 (by omega) (by omega) (by omega)
    have e63 : gi σ 261 3 = gi σ 456 6 := K1.1.2.2.1
    have e64 : gi σ 261 4 = gi σ 456 7 := K1.1.2.2.2.1
    have S1 := W.sm
    refine ⟨261, g3, ?_⟩
    rw [i261, e63]
    refine ⟨fun c6 => ⟨261, g3, ?_⟩, fun c6 => ⟨261, g3, ?_⟩⟩
    · rw [i261, e64]
      refine ⟨fun c7 => ⟨5, g5, sbT_str t6 zWd4_31.2.2.1 (by simp only [List.length_append, List.length_nil, List.length_cons, dl_len, bl_len, w31, w32, w33, w34, l31, l32, l33, l34]; omega) (fun S7 σ7 t7 f7 => ?_)⟩, fun c7 => ⟨5, g5, sbT_str t6 zWd4_31.2.1 (by simp only [List.length_append, List.length_nil, List.length_cons, dl_len, bl_len, w31, w32, w33, w34, l31, l32, l33, l34]; omega) (fun S7 σ7 t7 f7 => ?_)⟩⟩
      · have F7 := F6.tr f7
        refine ⟨5, by rw [F7.2.2.1 0 2 (by omega) (by omega)]; exact g2, fun x7 e7 => ?_⟩
        rw [F7.2.2.2.1 c (by omega) hc2 hc3, hc5] at e7
        exact sbT_i t7 (e7.trans eD) hdD (by simp only [List.length_append, List.length_nil, List.length_cons, dl_len, bl_len, w31, w32, w33, w34, l31, l32, l33, l34]; omega) (fun S8 σ8 t8 f8 => outp _ S8 σ8 t8 (F7.tr f8) (mod _ S8 σ8 t8 (F7.tr f8) (cOk_app (cOk_app okT (cOk_wd zWd4_31.2.2.1)) (cOk_dl _ _)) (by simp only [List.length_append, List.length_nil, List.length_cons, dl_len, bl_len, w31, w32, w33, w34, l31, l32, l33, l34]; omega) (Or.inr (Or.inl ⟨c6, fun e => by rw [c7] at e; exact absurd e (by decide), rfl⟩))))
      · exact outp _ S7 σ7 t7 (F6.tr f7) (mod _ S7 σ7 t7 (F6.tr f7) (cOk_app okT (cOk_wd zWd4_31.2.1)) (by simp only [List.length_append, List.length_nil, List.length_cons, dl_len, bl_len, w31, w32, w33, w34, l31, l32, l33, l34]; omega) (Or.inl ⟨c6, W.w.w.resolve_left c7, rfl⟩))
    · rw [i261, e63]
      refine ⟨fun c7 => outp _ S6 σ6 t6 F6 (mod _ S6 σ6 t6 F6 okT (by simp only [List.length_append, List.length_nil, List.length_cons, dl_len, bl_len, w31, w32, w33, w34, l31, l32, l33, l34]; omega) (Or.inr (Or.inr (Or.inl ⟨c6, c7, rfl⟩)))), fun c7 => ?_⟩
      refine ⟨261, g3, 268, by rw [F6.2.2.1 261 13 (by omega) (by omega)]; exact S1.1.2.2.1, 269, by rw [F6.2.2.1 268 0 (by omega) (by omega)]; exact S1.2.1.2.2.2.2.1, 5, g5, sbT_str t6 zWd4_31.2.2.2 (by simp only [List.length_append, List.length_nil, List.length_cons, dl_len, bl_len, w31, w32, w33, w34, l31, l32, l33, l34]; omega) (fun S7 σ7 t7 f7 => ⟨(gi σ 456 11).toNatClampNeg + 1, by omega, ?_⟩)⟩
      have hm1 : gi σ 269 1 = gi σ 456 11 := K1.2.2.2.1.2.2.2.1
      exact C_p24 (S0 := S) (σ0 := σ) (r := gi σ 456) (m := (gi σ 456 11).toNatClampNeg) k465 g2 S1.2.1.2.2.2.2.2.1 S1.2.2.2.2.1 (hm1.trans e11) (by omega) (fun k hk => K1.2.2.2.1.2.2.2.2 k hk) hbuf (gi σ 456 11).toNatClampNeg 0 _ S7 σ7 (by omega) t7 (F6.tr f7) (by simp only [List.length_append, List.length_nil, List.length_cons, dl_len, bl_len, w31, w32, w33, w34, l31, l32, l33, l34]; omega) (fun S8 σ8 t8 F8 => outp _ S8 σ8 t8 F8 (mod _ S8 σ8 t8 F8 (cOk_app (cOk_app okT (cOk_wd zWd4_31.2.2.2)) (cOk_bl _ _ (fun j _ h2 => hbuf j (by omega)))) (by simp only [List.length_append, List.length_nil, List.length_cons, dl_len, bl_len, w31, w32, w33, w34, l31, l32, l33, l34]; omega) (Or.inr (Or.inr (Or.inr ⟨c6, c7, rfl⟩)))))
  unfold wL_format wxX11_format
  exact c_office W.st (fun hv => main 0 262 (Or.inl ⟨hv, rfl⟩) (by omega) (by omega) (by omega) K1.2.1.1.1 K1.2.1.1.2.1 K1.2.1.1.2.2.1) (fun hv => main 1 265 (Or.inr ⟨hv, rfl⟩) (by omega) (by omega) (by omega) K1.2.1.2.1 K1.2.1.2.2.1 K1.2.1.2.2.2.1) (fun hv => ⟨rfl, thr hv⟩)
