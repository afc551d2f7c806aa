/-! CALLS: characters of the formatted text -/
theorem n_low {x : Int32} (h : 0 ≤ x.toInt ∧ x.toInt < 128) : x &&& 255 = x := by
  rw [neq, n255, Int.emod_eq_of_lt h.1 (by omega)]
theorem L_formattedCharacter {S : zSp} {σ : zS} {N : Nat} (W : zWd S σ N) {v : Int32} {K : Int32 → Int32 → zS → Prop} (hK : zEnd S N K) : wL_formattedCharacter (zSl S) σ 0 v 463 (fun r5 σ4 => wX12_formattedCharacter (zSl S) σ4 455 v (fun r10 σ9 => K r5 r10 σ9)) := by
  obtain ⟨p, p', s, m, h, W⟩ := W
  have OUT : ∀ (σ0 : zS) (r : Int32), wX12_formattedCharacter (zSl S) (sl σ0 463 0 r.toInt64) 455 v (fun r10 σ9 => K 0 r10 σ9) → ∀ x6 : Int64, x6 = r.toInt64 → vp_in (0 : Int32) (zSl S 463) ∧ ∀ σ8 : zS, σ8 = sl σ0 463 (0 : Int32).toNatClampNeg x6 → wX12_formattedCharacter (zSl S) σ8 455 v (fun r10 σ9 => K 0 r10 σ9) := fun σ0 r hq => c_out (σ := σ0) W.l463 (Q := fun r5 σ4 => wX12_formattedCharacter (zSl S) σ4 455 v (fun r10 σ9 => K r5 r10 σ9)) hq
  obtain ⟨a, n, q1, q2, q3, q4, q5, q6, q7, q8, q9, q10, q11, q12⟩ := W.2.2.2.2.2.2.2.2
  have g2 : gr σ 0 2 = some 5 := W.1.1.2.2.1
  have en := nI_toInt (n := n) (by omega)
  have u0 : (0 : Int64).toInt = 0 := rfl
  have z0 : (0 : Int32).toInt = 0 := rfl
  have t1 : (1 : Int32).toInt = 1 := rfl
  have em : (nI n - 1).toInt = (n : Int) - 1 := by rw [nsub (by rw [en, t1]; omega) (by rw [en, t1]; omega), en, t1]
  have thr : ¬ (0 ≤ v.toInt ∧ v.toInt < n) → wX12_formattedCharacter (zSl S) σ 455 v (fun r10 σ9 => K 1 r10 σ9) := by
    intro hv σ1 e1 x2 e2 x3 e3
    subst e1
    rw [si_at, zu_ne (show 11 ≠ 0 by decide), q8] at e2
    subst e2 e3
    refine n_isIn (fun hh => absurd ?_ hv) (fun _ => ⟨fun _ => n_raise (W.thr hK (by decide)), fun h => absurd rfl h⟩)
    rw [t64, u0, t64, em] at hh
    omega
  have mod : (0 ≤ v.toInt ∧ v.toInt < n) → wX12_formattedCharacter (zSl S) (sl σ 463 0 (gi σ 461 v.toNatClampNeg).toInt64) 455 v (fun r10 σ9 => K 0 r10 σ9) := by
    intro hv σ1 e1 x2 e2 x3 e3
    subst e1
    have cv := ncl hv.1
    obtain ⟨b1, b2, b3⟩ := q11 v.toNatClampNeg (by omega)
    have e11 : gi (si (sl σ 463 0 (gi σ 461 v.toNatClampNeg).toInt64) 455 0 0) 455 11 = nI n := by
      rw [si_at, zu_ne (show 11 ≠ 0 by decide)]
      exact q8
    rw [e11] at e2
    subst e2 e3
    refine n_isIn (fun _ => ⟨fun h => absurd h (by decide), fun _ => ⟨461, W.mg.1.2.2.2.2.2.2.1, ?_, fun x8 e8 => ?_⟩⟩) (fun hh => absurd (by rw [t64, u0, t64, em]; omega) hh)
    · rw [W.mg.2.2.2.2.2.2.1]
      exact nin hv.1 (by omega)
    · have e8' : x8 = gi σ 461 v.toNatClampNeg := by
        rw [e8, si_out _ _ (by decide)]
        rfl
      subst e8'
      rw [chr_id b2 (by omega)]
      exact W.fin hK rfl
  unfold wL_formattedCharacter wxX11_formattedCharacter wxX11_formattedCharacter_15 wJ4_length_8abf5 wJ5_length_8abf5
  refine ⟨fun hv => ⟨rfl, thr (fun e => by rw [nlt, z0] at hv; omega)⟩, fun hv => ⟨5, g2, ?_⟩⟩
  have hv0 := hv
  rw [nlt, z0] at hv
  rw [q7]
  refine ⟨fun hl => ⟨5, g2, ?_⟩, fun hl => ⟨rfl, thr (fun e => hl (by rw [nlt, en]; omega))⟩⟩
  have hl0 := hl
  rw [nlt, en] at hl
  have cv := ncl (a := v) (by omega)
  obtain ⟨b1, b2, b3⟩ := q11 v.toNatClampNeg (by omega)
  unfold wJ4_charAt_5068e wJ5_charAt_5068e wJ0_checkIndex_df160 wJ3_checkIndex_8e157
  intro x1 e1
  rw [q6] at e1
  subst e1
  refine ⟨a, q1, fun x3 e3 x4 e4 x5 e5 => ?_⟩
  have h3 : x3 = nI (zSl S a) := by
    rw [e3]
    rcases q2 with e | e | e | e <;> rw [e] <;> decide
  have h3' : x3.toInt = zSl S a := by rw [h3, nI_toInt (by omega)]
  rw [q7] at e4
  have h5 : x5 = nI n := by
    rw [e5, if_neg (by rw [nlt, h3', e4, en]; omega), e4]
  subst h5
  refine ⟨fun h => absurd h hv0, fun _ => ⟨fun _ => ⟨fun _ => ⟨nin (by omega) (by omega), fun x8 e8 => ?_⟩, fun h => absurd rfl h⟩, fun h => absurd hl0 h⟩⟩
  rw [b1, n_low ⟨b2, b3⟩] at e8
  subst e8
  rw [chr_id b2 (by omega)]
  exact ⟨nar_id b2 (by omega), nar_id b2 (by omega), OUT σ _ (mod ⟨by omega, hl⟩)⟩
