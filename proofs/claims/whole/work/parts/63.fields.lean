/-! THE CLASS'S STEPS: single fields; lines that end -/
theorem RRs_5 {f : Nat → Nat → Int32} {s0 s1 : Int64} {r : Nat → Int32} (h : RR f s0 s1 r) (v : Int32) : RR (zf f 0 1 v) s0 s1 (zu r 5 v) := by
  obtain ⟨h1, ⟨h2, h2'⟩, ⟨h3, h3'⟩, h4, h5, h6, h7, h8, h9⟩ := h
  have er : ∀ k, k ≠ 5 → zu r 5 v k = r k := fun k hk => zu_ne hk
  have ef : ∀ k, k ≠ 0 → zf f 0 1 v k = f k := fun k hk => zf_ne hk
  refine ⟨?_, ⟨RO_c h2 (ef 1 (by omega)) (fun k hk => er k (by omega)), RO_c h2' (ef 4 (by omega)) (fun k hk => er k (by omega))⟩, ⟨RV_c h3 (ef 2 (by omega)) (ef 3 (by omega)) (er _ (by omega)) (fun k hk => er _ (by omega)), RV_c h3' (ef 5 (by omega)) (ef 6 (by omega)) (er _ (by omega)) (fun k hk => er _ (by omega))⟩, RB_c h4 (ef 7 (by omega)) (ef 8 (by omega)) (ef 9 (by omega)) (fun k hk => er k (by omega)) (fun k hk => er _ (by omega)), RT_c h5 (ef 10 (by omega)) (ef 11 (by omega)) (er _ (by omega)) (fun k hk => er _ (by omega)), RE_c h6 (ef 12 (by omega)) (ef 13 (by omega)) (er _ (by omega)) (fun k hk => er _ (by omega)), RZ_c h7 (ef 14 (by omega)) (ef 15 (by omega)) (er _ (by omega)) (fun k hk => er _ (by omega)), by rw [er 37 (by omega)]; exact h8, by rw [er 38 (by omega)]; exact h9⟩
  unfold RS
  simp only [zf_ap, zu_ap, if_true, Nat.reduceEqDiff, if_false]
  exact ⟨trivial, h1.2.1, h1.2.2.1, h1.2.2.2.1, h1.2.2.2.2.1, h1.2.2.2.2.2.1, h1.2.2.2.2.2.2.1, h1.2.2.2.2.2.2.2.1, h1.2.2.2.2.2.2.2.2.1, h1.2.2.2.2.2.2.2.2.2⟩
theorem RRs_2 {f : Nat → Nat → Int32} {s0 s1 : Int64} {r : Nat → Int32} (h : RR f s0 s1 r) (v : Int32) : RR (zf f 0 2 v) s0 s1 (zu r 2 v) := by
  obtain ⟨h1, ⟨h2, h2'⟩, ⟨h3, h3'⟩, h4, h5, h6, h7, h8, h9⟩ := h
  have er : ∀ k, k ≠ 2 → zu r 2 v k = r k := fun k hk => zu_ne hk
  have ef : ∀ k, k ≠ 0 → zf f 0 2 v k = f k := fun k hk => zf_ne hk
  refine ⟨?_, ⟨RO_c h2 (ef 1 (by omega)) (fun k hk => er k (by omega)), RO_c h2' (ef 4 (by omega)) (fun k hk => er k (by omega))⟩, ⟨RV_c h3 (ef 2 (by omega)) (ef 3 (by omega)) (er _ (by omega)) (fun k hk => er _ (by omega)), RV_c h3' (ef 5 (by omega)) (ef 6 (by omega)) (er _ (by omega)) (fun k hk => er _ (by omega))⟩, RB_c h4 (ef 7 (by omega)) (ef 8 (by omega)) (ef 9 (by omega)) (fun k hk => er k (by omega)) (fun k hk => er _ (by omega)), RT_c h5 (ef 10 (by omega)) (ef 11 (by omega)) (er _ (by omega)) (fun k hk => er _ (by omega)), RE_c h6 (ef 12 (by omega)) (ef 13 (by omega)) (er _ (by omega)) (fun k hk => er _ (by omega)), RZ_c h7 (ef 14 (by omega)) (ef 15 (by omega)) (er _ (by omega)) (fun k hk => er _ (by omega)), by rw [er 37 (by omega)]; exact h8, by rw [er 38 (by omega)]; exact h9⟩
  unfold RS
  simp only [zf_ap, zu_ap, if_true, Nat.reduceEqDiff, if_false]
  exact ⟨h1.1, trivial, h1.2.2.1, h1.2.2.2.1, h1.2.2.2.2.1, h1.2.2.2.2.2.1, h1.2.2.2.2.2.2.1, h1.2.2.2.2.2.2.2.1, h1.2.2.2.2.2.2.2.2.1, h1.2.2.2.2.2.2.2.2.2⟩
theorem RRs_6 {f : Nat → Nat → Int32} {s0 s1 : Int64} {r : Nat → Int32} (h : RR f s0 s1 r) (v : Int32) : RR (zf f 0 3 v) s0 s1 (zu r 6 v) := by
  obtain ⟨h1, ⟨h2, h2'⟩, ⟨h3, h3'⟩, h4, h5, h6, h7, h8, h9⟩ := h
  have er : ∀ k, k ≠ 6 → zu r 6 v k = r k := fun k hk => zu_ne hk
  have ef : ∀ k, k ≠ 0 → zf f 0 3 v k = f k := fun k hk => zf_ne hk
  refine ⟨?_, ⟨RO_c h2 (ef 1 (by omega)) (fun k hk => er k (by omega)), RO_c h2' (ef 4 (by omega)) (fun k hk => er k (by omega))⟩, ⟨RV_c h3 (ef 2 (by omega)) (ef 3 (by omega)) (er _ (by omega)) (fun k hk => er _ (by omega)), RV_c h3' (ef 5 (by omega)) (ef 6 (by omega)) (er _ (by omega)) (fun k hk => er _ (by omega))⟩, RB_c h4 (ef 7 (by omega)) (ef 8 (by omega)) (ef 9 (by omega)) (fun k hk => er k (by omega)) (fun k hk => er _ (by omega)), RT_c h5 (ef 10 (by omega)) (ef 11 (by omega)) (er _ (by omega)) (fun k hk => er _ (by omega)), RE_c h6 (ef 12 (by omega)) (ef 13 (by omega)) (er _ (by omega)) (fun k hk => er _ (by omega)), RZ_c h7 (ef 14 (by omega)) (ef 15 (by omega)) (er _ (by omega)) (fun k hk => er _ (by omega)), by rw [er 37 (by omega)]; exact h8, by rw [er 38 (by omega)]; exact h9⟩
  unfold RS
  simp only [zf_ap, zu_ap, if_true, Nat.reduceEqDiff, if_false]
  exact ⟨h1.1, h1.2.1, trivial, h1.2.2.2.1, h1.2.2.2.2.1, h1.2.2.2.2.2.1, h1.2.2.2.2.2.2.1, h1.2.2.2.2.2.2.2.1, h1.2.2.2.2.2.2.2.2.1, h1.2.2.2.2.2.2.2.2.2⟩
theorem RRs_7 {f : Nat → Nat → Int32} {s0 s1 : Int64} {r : Nat → Int32} (h : RR f s0 s1 r) (v : Int32) (hv : ¬ v = 1) : RR (zf f 0 4 v) s0 s1 (zu r 7 v) := by
  obtain ⟨h1, ⟨h2, h2'⟩, ⟨h3, h3'⟩, h4, h5, h6, h7, h8, h9⟩ := h
  have er : ∀ k, k ≠ 7 → zu r 7 v k = r k := fun k hk => zu_ne hk
  have ef : ∀ k, k ≠ 0 → zf f 0 4 v k = f k := fun k hk => zf_ne hk
  refine ⟨?_, ⟨RO_c h2 (ef 1 (by omega)) (fun k hk => er k (by omega)), RO_c h2' (ef 4 (by omega)) (fun k hk => er k (by omega))⟩, ⟨RV_c h3 (ef 2 (by omega)) (ef 3 (by omega)) (er _ (by omega)) (fun k hk => er _ (by omega)), RV_c h3' (ef 5 (by omega)) (ef 6 (by omega)) (er _ (by omega)) (fun k hk => er _ (by omega))⟩, RB_c h4 (ef 7 (by omega)) (ef 8 (by omega)) (ef 9 (by omega)) (fun k hk => er k (by omega)) (fun k hk => er _ (by omega)), RT_c h5 (ef 10 (by omega)) (ef 11 (by omega)) (er _ (by omega)) (fun k hk => er _ (by omega)), RE_c h6 (ef 12 (by omega)) (ef 13 (by omega)) (er _ (by omega)) (fun k hk => er _ (by omega)), RZ_c h7 (ef 14 (by omega)) (ef 15 (by omega)) (er _ (by omega)) (fun k hk => er _ (by omega)), by rw [er 37 (by omega)]; exact h8, by rw [er 38 (by omega)]; exact h9⟩
  unfold RS
  simp only [zf_ap, zu_ap, if_true, Nat.reduceEqDiff, if_false]
  exact ⟨h1.1, h1.2.1, h1.2.2.1, trivial, fun h => absurd h hv, h1.2.2.2.2.2.1, h1.2.2.2.2.2.2.1, h1.2.2.2.2.2.2.2.1, h1.2.2.2.2.2.2.2.2.1, h1.2.2.2.2.2.2.2.2.2⟩
theorem RRs_9 {f : Nat → Nat → Int32} {s0 s1 : Int64} {r : Nat → Int32} (h : RR f s0 s1 r) (v : Int32) : RR (zf f 0 6 v) s0 s1 (zu r 9 v) := by
  obtain ⟨h1, ⟨h2, h2'⟩, ⟨h3, h3'⟩, h4, h5, h6, h7, h8, h9⟩ := h
  have er : ∀ k, k ≠ 9 → zu r 9 v k = r k := fun k hk => zu_ne hk
  have ef : ∀ k, k ≠ 0 → zf f 0 6 v k = f k := fun k hk => zf_ne hk
  refine ⟨?_, ⟨RO_c h2 (ef 1 (by omega)) (fun k hk => er k (by omega)), RO_c h2' (ef 4 (by omega)) (fun k hk => er k (by omega))⟩, ⟨RV_c h3 (ef 2 (by omega)) (ef 3 (by omega)) (er _ (by omega)) (fun k hk => er _ (by omega)), RV_c h3' (ef 5 (by omega)) (ef 6 (by omega)) (er _ (by omega)) (fun k hk => er _ (by omega))⟩, RB_c h4 (ef 7 (by omega)) (ef 8 (by omega)) (ef 9 (by omega)) (fun k hk => er k (by omega)) (fun k hk => er _ (by omega)), RT_c h5 (ef 10 (by omega)) (ef 11 (by omega)) (er _ (by omega)) (fun k hk => er _ (by omega)), RE_c h6 (ef 12 (by omega)) (ef 13 (by omega)) (er _ (by omega)) (fun k hk => er _ (by omega)), RZ_c h7 (ef 14 (by omega)) (ef 15 (by omega)) (er _ (by omega)) (fun k hk => er _ (by omega)), by rw [er 37 (by omega)]; exact h8, by rw [er 38 (by omega)]; exact h9⟩
  unfold RS
  simp only [zf_ap, zu_ap, if_true, Nat.reduceEqDiff, if_false]
  exact ⟨h1.1, h1.2.1, h1.2.2.1, h1.2.2.2.1, h1.2.2.2.2.1, trivial, h1.2.2.2.2.2.2.1, h1.2.2.2.2.2.2.2.1, h1.2.2.2.2.2.2.2.2.1, h1.2.2.2.2.2.2.2.2.2⟩
theorem RRs_10 {f : Nat → Nat → Int32} {s0 s1 : Int64} {r : Nat → Int32} (h : RR f s0 s1 r) (v : Int32) : RR (zf f 0 7 v) s0 s1 (zu r 10 v) := by
  obtain ⟨h1, ⟨h2, h2'⟩, ⟨h3, h3'⟩, h4, h5, h6, h7, h8, h9⟩ := h
  have er : ∀ k, k ≠ 10 → zu r 10 v k = r k := fun k hk => zu_ne hk
  have ef : ∀ k, k ≠ 0 → zf f 0 7 v k = f k := fun k hk => zf_ne hk
  refine ⟨?_, ⟨RO_c h2 (ef 1 (by omega)) (fun k hk => er k (by omega)), RO_c h2' (ef 4 (by omega)) (fun k hk => er k (by omega))⟩, ⟨RV_c h3 (ef 2 (by omega)) (ef 3 (by omega)) (er _ (by omega)) (fun k hk => er _ (by omega)), RV_c h3' (ef 5 (by omega)) (ef 6 (by omega)) (er _ (by omega)) (fun k hk => er _ (by omega))⟩, RB_c h4 (ef 7 (by omega)) (ef 8 (by omega)) (ef 9 (by omega)) (fun k hk => er k (by omega)) (fun k hk => er _ (by omega)), RT_c h5 (ef 10 (by omega)) (ef 11 (by omega)) (er _ (by omega)) (fun k hk => er _ (by omega)), RE_c h6 (ef 12 (by omega)) (ef 13 (by omega)) (er _ (by omega)) (fun k hk => er _ (by omega)), RZ_c h7 (ef 14 (by omega)) (ef 15 (by omega)) (er _ (by omega)) (fun k hk => er _ (by omega)), by rw [er 37 (by omega)]; exact h8, by rw [er 38 (by omega)]; exact h9⟩
  unfold RS
  simp only [zf_ap, zu_ap, if_true, Nat.reduceEqDiff, if_false]
  exact ⟨h1.1, h1.2.1, h1.2.2.1, h1.2.2.2.1, h1.2.2.2.2.1, h1.2.2.2.2.2.1, trivial, h1.2.2.2.2.2.2.2.1, h1.2.2.2.2.2.2.2.2.1, h1.2.2.2.2.2.2.2.2.2⟩
theorem RRs_15 {f : Nat → Nat → Int32} {s0 s1 : Int64} {r : Nat → Int32} (h : RR f s0 s1 r) (v : Int32) : RR (zf f 0 8 v) s0 s1 (zu r 15 v) := by
  obtain ⟨h1, ⟨h2, h2'⟩, ⟨h3, h3'⟩, h4, h5, h6, h7, h8, h9⟩ := h
  have er : ∀ k, k ≠ 15 → zu r 15 v k = r k := fun k hk => zu_ne hk
  have ef : ∀ k, k ≠ 0 → zf f 0 8 v k = f k := fun k hk => zf_ne hk
  refine ⟨?_, ⟨RO_c h2 (ef 1 (by omega)) (fun k hk => er k (by omega)), RO_c h2' (ef 4 (by omega)) (fun k hk => er k (by omega))⟩, ⟨RV_c h3 (ef 2 (by omega)) (ef 3 (by omega)) (er _ (by omega)) (fun k hk => er _ (by omega)), RV_c h3' (ef 5 (by omega)) (ef 6 (by omega)) (er _ (by omega)) (fun k hk => er _ (by omega))⟩, RB_c h4 (ef 7 (by omega)) (ef 8 (by omega)) (ef 9 (by omega)) (fun k hk => er k (by omega)) (fun k hk => er _ (by omega)), RT_c h5 (ef 10 (by omega)) (ef 11 (by omega)) (er _ (by omega)) (fun k hk => er _ (by omega)), RE_c h6 (ef 12 (by omega)) (ef 13 (by omega)) (er _ (by omega)) (fun k hk => er _ (by omega)), RZ_c h7 (ef 14 (by omega)) (ef 15 (by omega)) (er _ (by omega)) (fun k hk => er _ (by omega)), by rw [er 37 (by omega)]; exact h8, by rw [er 38 (by omega)]; exact h9⟩
  unfold RS
  simp only [zf_ap, zu_ap, if_true, Nat.reduceEqDiff, if_false]
  exact ⟨h1.1, h1.2.1, h1.2.2.1, h1.2.2.2.1, h1.2.2.2.2.1, h1.2.2.2.2.2.1, h1.2.2.2.2.2.2.1, trivial, h1.2.2.2.2.2.2.2.2.1, h1.2.2.2.2.2.2.2.2.2⟩
theorem RRs_16 {f : Nat → Nat → Int32} {s0 s1 : Int64} {r : Nat → Int32} (h : RR f s0 s1 r) (v : Int32) : RR (zf f 0 9 v) s0 s1 (zu r 16 v) := by
  obtain ⟨h1, ⟨h2, h2'⟩, ⟨h3, h3'⟩, h4, h5, h6, h7, h8, h9⟩ := h
  have er : ∀ k, k ≠ 16 → zu r 16 v k = r k := fun k hk => zu_ne hk
  have ef : ∀ k, k ≠ 0 → zf f 0 9 v k = f k := fun k hk => zf_ne hk
  refine ⟨?_, ⟨RO_c h2 (ef 1 (by omega)) (fun k hk => er k (by omega)), RO_c h2' (ef 4 (by omega)) (fun k hk => er k (by omega))⟩, ⟨RV_c h3 (ef 2 (by omega)) (ef 3 (by omega)) (er _ (by omega)) (fun k hk => er _ (by omega)), RV_c h3' (ef 5 (by omega)) (ef 6 (by omega)) (er _ (by omega)) (fun k hk => er _ (by omega))⟩, RB_c h4 (ef 7 (by omega)) (ef 8 (by omega)) (ef 9 (by omega)) (fun k hk => er k (by omega)) (fun k hk => er _ (by omega)), RT_c h5 (ef 10 (by omega)) (ef 11 (by omega)) (er _ (by omega)) (fun k hk => er _ (by omega)), RE_c h6 (ef 12 (by omega)) (ef 13 (by omega)) (er _ (by omega)) (fun k hk => er _ (by omega)), RZ_c h7 (ef 14 (by omega)) (ef 15 (by omega)) (er _ (by omega)) (fun k hk => er _ (by omega)), by rw [er 37 (by omega)]; exact h8, by rw [er 38 (by omega)]; exact h9⟩
  unfold RS
  simp only [zf_ap, zu_ap, if_true, Nat.reduceEqDiff, if_false]
  exact ⟨h1.1, h1.2.1, h1.2.2.1, h1.2.2.2.1, h1.2.2.2.2.1, h1.2.2.2.2.2.1, h1.2.2.2.2.2.2.1, h1.2.2.2.2.2.2.2.1, trivial, h1.2.2.2.2.2.2.2.2.2⟩
theorem RRs_17 {f : Nat → Nat → Int32} {s0 s1 : Int64} {r : Nat → Int32} (h : RR f s0 s1 r) (v : Int32) : RR (zf f 0 10 v) s0 s1 (zu r 17 v) := by
  obtain ⟨h1, ⟨h2, h2'⟩, ⟨h3, h3'⟩, h4, h5, h6, h7, h8, h9⟩ := h
  have er : ∀ k, k ≠ 17 → zu r 17 v k = r k := fun k hk => zu_ne hk
  have ef : ∀ k, k ≠ 0 → zf f 0 10 v k = f k := fun k hk => zf_ne hk
  refine ⟨?_, ⟨RO_c h2 (ef 1 (by omega)) (fun k hk => er k (by omega)), RO_c h2' (ef 4 (by omega)) (fun k hk => er k (by omega))⟩, ⟨RV_c h3 (ef 2 (by omega)) (ef 3 (by omega)) (er _ (by omega)) (fun k hk => er _ (by omega)), RV_c h3' (ef 5 (by omega)) (ef 6 (by omega)) (er _ (by omega)) (fun k hk => er _ (by omega))⟩, RB_c h4 (ef 7 (by omega)) (ef 8 (by omega)) (ef 9 (by omega)) (fun k hk => er k (by omega)) (fun k hk => er _ (by omega)), RT_c h5 (ef 10 (by omega)) (ef 11 (by omega)) (er _ (by omega)) (fun k hk => er _ (by omega)), RE_c h6 (ef 12 (by omega)) (ef 13 (by omega)) (er _ (by omega)) (fun k hk => er _ (by omega)), RZ_c h7 (ef 14 (by omega)) (ef 15 (by omega)) (er _ (by omega)) (fun k hk => er _ (by omega)), by rw [er 37 (by omega)]; exact h8, by rw [er 38 (by omega)]; exact h9⟩
  unfold RS
  simp only [zf_ap, zu_ap, if_true, Nat.reduceEqDiff, if_false]
  exact ⟨h1.1, h1.2.1, h1.2.2.1, h1.2.2.2.1, h1.2.2.2.2.1, h1.2.2.2.2.2.1, h1.2.2.2.2.2.2.1, h1.2.2.2.2.2.2.2.1, h1.2.2.2.2.2.2.2.2.1, trivial⟩
theorem RRs_w {f : Nat → Nat → Int32} {s0 s1 : Int64} {r : Nat → Int32} (h : RR f s0 s1 r) (v : Int32) : RR (zf (zf f 0 4 1) 0 5 v) s0 s1 (zu (zu r 7 1) 8 v) := by
  obtain ⟨h1, ⟨h2, h2'⟩, ⟨h3, h3'⟩, h4, h5, h6, h7, h8, h9⟩ := h
  have er : ∀ k, k ≠ 7 ∧ k ≠ 8 → zu (zu r 7 1) 8 v k = r k := fun k hk => by rw [zu_ne hk.2, zu_ne hk.1]
  have ef : ∀ k, k ≠ 0 → zf (zf f 0 4 1) 0 5 v k = f k := fun k hk => by rw [zf_ne hk, zf_ne hk]
  refine ⟨?_, ⟨RO_c h2 (ef 1 (by omega)) (fun k hk => er k (by omega)), RO_c h2' (ef 4 (by omega)) (fun k hk => er k (by omega))⟩, ⟨RV_c h3 (ef 2 (by omega)) (ef 3 (by omega)) (er _ (by omega)) (fun k hk => er _ (by omega)), RV_c h3' (ef 5 (by omega)) (ef 6 (by omega)) (er _ (by omega)) (fun k hk => er _ (by omega))⟩, RB_c h4 (ef 7 (by omega)) (ef 8 (by omega)) (ef 9 (by omega)) (fun k hk => er k (by omega)) (fun k hk => er _ (by omega)), RT_c h5 (ef 10 (by omega)) (ef 11 (by omega)) (er _ (by omega)) (fun k hk => er _ (by omega)), RE_c h6 (ef 12 (by omega)) (ef 13 (by omega)) (er _ (by omega)) (fun k hk => er _ (by omega)), RZ_c h7 (ef 14 (by omega)) (ef 15 (by omega)) (er _ (by omega)) (fun k hk => er _ (by omega)), by rw [er 37 (by omega)]; exact h8, by rw [er 38 (by omega)]; exact h9⟩
  unfold RS
  simp only [zf_ap, zu_ap, if_true, Nat.reduceEqDiff, if_false]
  exact ⟨h1.1, h1.2.1, h1.2.2.1, trivial, fun _ => trivial, h1.2.2.2.2.2.1, h1.2.2.2.2.2.2.1, h1.2.2.2.2.2.2.2.1, h1.2.2.2.2.2.2.2.2.1, h1.2.2.2.2.2.2.2.2.2⟩
theorem RRs_21 {f : Nat → Nat → Int32} {s0 s1 : Int64} {r : Nat → Int32} (h : RR f s0 s1 r) (v : Int32) : RR (zf f 1 0 v) s0 s1 (zu r 21 v) := by
  obtain ⟨h1, ⟨h2, h2'⟩, ⟨h3, h3'⟩, h4, h5, h6, h7, h8, h9⟩ := h
  have er : ∀ k, k ≠ 21 → zu r 21 v k = r k := fun k hk => zu_ne hk
  have ef : ∀ k, k ≠ 1 → zf f 1 0 v k = f k := fun k hk => zf_ne hk
  refine ⟨RS_c h1 (ef 0 (by omega)) (fun k hk => er k (by omega)), ⟨?_, RO_c h2' (ef 4 (by omega)) (fun k hk => er k (by omega))⟩, ⟨RV_c h3 (ef 2 (by omega)) (ef 3 (by omega)) (er _ (by omega)) (fun k hk => er _ (by omega)), RV_c h3' (ef 5 (by omega)) (ef 6 (by omega)) (er _ (by omega)) (fun k hk => er _ (by omega))⟩, RB_c h4 (ef 7 (by omega)) (ef 8 (by omega)) (ef 9 (by omega)) (fun k hk => er k (by omega)) (fun k hk => er _ (by omega)), RT_c h5 (ef 10 (by omega)) (ef 11 (by omega)) (er _ (by omega)) (fun k hk => er _ (by omega)), RE_c h6 (ef 12 (by omega)) (ef 13 (by omega)) (er _ (by omega)) (fun k hk => er _ (by omega)), RZ_c h7 (ef 14 (by omega)) (ef 15 (by omega)) (er _ (by omega)) (fun k hk => er _ (by omega)), by rw [er 37 (by omega)]; exact h8, by rw [er 38 (by omega)]; exact h9⟩
  unfold RO
  simp only [Nat.mul_zero, Nat.add_zero, Nat.mul_one, Nat.reduceAdd, zf_ap, zu_ap, if_true, Nat.reduceEqDiff, if_false]
  exact ⟨trivial, h2.2.1, h2.2.2.1, h2.2.2.2.1, h2.2.2.2.2.1, h2.2.2.2.2.2⟩
theorem RRs_23 {f : Nat → Nat → Int32} {s0 s1 : Int64} {r : Nat → Int32} (h : RR f s0 s1 r) (v : Int32) : RR (zf f 1 1 v) s0 s1 (zu r 23 v) := by
  obtain ⟨h1, ⟨h2, h2'⟩, ⟨h3, h3'⟩, h4, h5, h6, h7, h8, h9⟩ := h
  have er : ∀ k, k ≠ 23 → zu r 23 v k = r k := fun k hk => zu_ne hk
  have ef : ∀ k, k ≠ 1 → zf f 1 1 v k = f k := fun k hk => zf_ne hk
  refine ⟨RS_c h1 (ef 0 (by omega)) (fun k hk => er k (by omega)), ⟨?_, RO_c h2' (ef 4 (by omega)) (fun k hk => er k (by omega))⟩, ⟨RV_c h3 (ef 2 (by omega)) (ef 3 (by omega)) (er _ (by omega)) (fun k hk => er _ (by omega)), RV_c h3' (ef 5 (by omega)) (ef 6 (by omega)) (er _ (by omega)) (fun k hk => er _ (by omega))⟩, RB_c h4 (ef 7 (by omega)) (ef 8 (by omega)) (ef 9 (by omega)) (fun k hk => er k (by omega)) (fun k hk => er _ (by omega)), RT_c h5 (ef 10 (by omega)) (ef 11 (by omega)) (er _ (by omega)) (fun k hk => er _ (by omega)), RE_c h6 (ef 12 (by omega)) (ef 13 (by omega)) (er _ (by omega)) (fun k hk => er _ (by omega)), RZ_c h7 (ef 14 (by omega)) (ef 15 (by omega)) (er _ (by omega)) (fun k hk => er _ (by omega)), by rw [er 37 (by omega)]; exact h8, by rw [er 38 (by omega)]; exact h9⟩
  unfold RO
  simp only [Nat.mul_zero, Nat.add_zero, Nat.mul_one, Nat.reduceAdd, zf_ap, zu_ap, if_true, Nat.reduceEqDiff, if_false]
  exact ⟨h2.1, trivial, h2.2.2.1, h2.2.2.2.1, h2.2.2.2.2.1, h2.2.2.2.2.2⟩
theorem RRs_27 {f : Nat → Nat → Int32} {s0 s1 : Int64} {r : Nat → Int32} (h : RR f s0 s1 r) (v : Int32) : RR (zf f 1 2 v) s0 s1 (zu r 27 v) := by
  obtain ⟨h1, ⟨h2, h2'⟩, ⟨h3, h3'⟩, h4, h5, h6, h7, h8, h9⟩ := h
  have er : ∀ k, k ≠ 27 → zu r 27 v k = r k := fun k hk => zu_ne hk
  have ef : ∀ k, k ≠ 1 → zf f 1 2 v k = f k := fun k hk => zf_ne hk
  refine ⟨RS_c h1 (ef 0 (by omega)) (fun k hk => er k (by omega)), ⟨?_, RO_c h2' (ef 4 (by omega)) (fun k hk => er k (by omega))⟩, ⟨RV_c h3 (ef 2 (by omega)) (ef 3 (by omega)) (er _ (by omega)) (fun k hk => er _ (by omega)), RV_c h3' (ef 5 (by omega)) (ef 6 (by omega)) (er _ (by omega)) (fun k hk => er _ (by omega))⟩, RB_c h4 (ef 7 (by omega)) (ef 8 (by omega)) (ef 9 (by omega)) (fun k hk => er k (by omega)) (fun k hk => er _ (by omega)), RT_c h5 (ef 10 (by omega)) (ef 11 (by omega)) (er _ (by omega)) (fun k hk => er _ (by omega)), RE_c h6 (ef 12 (by omega)) (ef 13 (by omega)) (er _ (by omega)) (fun k hk => er _ (by omega)), RZ_c h7 (ef 14 (by omega)) (ef 15 (by omega)) (er _ (by omega)) (fun k hk => er _ (by omega)), by rw [er 37 (by omega)]; exact h8, by rw [er 38 (by omega)]; exact h9⟩
  unfold RO
  simp only [Nat.mul_zero, Nat.add_zero, Nat.mul_one, Nat.reduceAdd, zf_ap, zu_ap, if_true, Nat.reduceEqDiff, if_false]
  exact ⟨h2.1, h2.2.1, trivial, h2.2.2.2.1, h2.2.2.2.2.1, h2.2.2.2.2.2⟩
theorem RRs_31 {f : Nat → Nat → Int32} {s0 s1 : Int64} {r : Nat → Int32} (h : RR f s0 s1 r) (v : Int32) : RR (zf f 1 3 v) s0 s1 (zu r 31 v) := by
  obtain ⟨h1, ⟨h2, h2'⟩, ⟨h3, h3'⟩, h4, h5, h6, h7, h8, h9⟩ := h
  have er : ∀ k, k ≠ 31 → zu r 31 v k = r k := fun k hk => zu_ne hk
  have ef : ∀ k, k ≠ 1 → zf f 1 3 v k = f k := fun k hk => zf_ne hk
  refine ⟨RS_c h1 (ef 0 (by omega)) (fun k hk => er k (by omega)), ⟨?_, RO_c h2' (ef 4 (by omega)) (fun k hk => er k (by omega))⟩, ⟨RV_c h3 (ef 2 (by omega)) (ef 3 (by omega)) (er _ (by omega)) (fun k hk => er _ (by omega)), RV_c h3' (ef 5 (by omega)) (ef 6 (by omega)) (er _ (by omega)) (fun k hk => er _ (by omega))⟩, RB_c h4 (ef 7 (by omega)) (ef 8 (by omega)) (ef 9 (by omega)) (fun k hk => er k (by omega)) (fun k hk => er _ (by omega)), RT_c h5 (ef 10 (by omega)) (ef 11 (by omega)) (er _ (by omega)) (fun k hk => er _ (by omega)), RE_c h6 (ef 12 (by omega)) (ef 13 (by omega)) (er _ (by omega)) (fun k hk => er _ (by omega)), RZ_c h7 (ef 14 (by omega)) (ef 15 (by omega)) (er _ (by omega)) (fun k hk => er _ (by omega)), by rw [er 37 (by omega)]; exact h8, by rw [er 38 (by omega)]; exact h9⟩
  unfold RO
  simp only [Nat.mul_zero, Nat.add_zero, Nat.mul_one, Nat.reduceAdd, zf_ap, zu_ap, if_true, Nat.reduceEqDiff, if_false]
  exact ⟨h2.1, h2.2.1, h2.2.2.1, trivial, h2.2.2.2.2.1, h2.2.2.2.2.2⟩
theorem RRs_33 {f : Nat → Nat → Int32} {s0 s1 : Int64} {r : Nat → Int32} (h : RR f s0 s1 r) (v : Int32) : RR (zf f 1 4 v) s0 s1 (zu r 33 v) := by
  obtain ⟨h1, ⟨h2, h2'⟩, ⟨h3, h3'⟩, h4, h5, h6, h7, h8, h9⟩ := h
  have er : ∀ k, k ≠ 33 → zu r 33 v k = r k := fun k hk => zu_ne hk
  have ef : ∀ k, k ≠ 1 → zf f 1 4 v k = f k := fun k hk => zf_ne hk
  refine ⟨RS_c h1 (ef 0 (by omega)) (fun k hk => er k (by omega)), ⟨?_, RO_c h2' (ef 4 (by omega)) (fun k hk => er k (by omega))⟩, ⟨RV_c h3 (ef 2 (by omega)) (ef 3 (by omega)) (er _ (by omega)) (fun k hk => er _ (by omega)), RV_c h3' (ef 5 (by omega)) (ef 6 (by omega)) (er _ (by omega)) (fun k hk => er _ (by omega))⟩, RB_c h4 (ef 7 (by omega)) (ef 8 (by omega)) (ef 9 (by omega)) (fun k hk => er k (by omega)) (fun k hk => er _ (by omega)), RT_c h5 (ef 10 (by omega)) (ef 11 (by omega)) (er _ (by omega)) (fun k hk => er _ (by omega)), RE_c h6 (ef 12 (by omega)) (ef 13 (by omega)) (er _ (by omega)) (fun k hk => er _ (by omega)), RZ_c h7 (ef 14 (by omega)) (ef 15 (by omega)) (er _ (by omega)) (fun k hk => er _ (by omega)), by rw [er 37 (by omega)]; exact h8, by rw [er 38 (by omega)]; exact h9⟩
  unfold RO
  simp only [Nat.mul_zero, Nat.add_zero, Nat.mul_one, Nat.reduceAdd, zf_ap, zu_ap, if_true, Nat.reduceEqDiff, if_false]
  exact ⟨h2.1, h2.2.1, h2.2.2.1, h2.2.2.2.1, trivial, h2.2.2.2.2.2⟩
theorem RRs_35 {f : Nat → Nat → Int32} {s0 s1 : Int64} {r : Nat → Int32} (h : RR f s0 s1 r) (v : Int32) : RR (zf f 1 5 v) s0 s1 (zu r 35 v) := by
  obtain ⟨h1, ⟨h2, h2'⟩, ⟨h3, h3'⟩, h4, h5, h6, h7, h8, h9⟩ := h
  have er : ∀ k, k ≠ 35 → zu r 35 v k = r k := fun k hk => zu_ne hk
  have ef : ∀ k, k ≠ 1 → zf f 1 5 v k = f k := fun k hk => zf_ne hk
  refine ⟨RS_c h1 (ef 0 (by omega)) (fun k hk => er k (by omega)), ⟨?_, RO_c h2' (ef 4 (by omega)) (fun k hk => er k (by omega))⟩, ⟨RV_c h3 (ef 2 (by omega)) (ef 3 (by omega)) (er _ (by omega)) (fun k hk => er _ (by omega)), RV_c h3' (ef 5 (by omega)) (ef 6 (by omega)) (er _ (by omega)) (fun k hk => er _ (by omega))⟩, RB_c h4 (ef 7 (by omega)) (ef 8 (by omega)) (ef 9 (by omega)) (fun k hk => er k (by omega)) (fun k hk => er _ (by omega)), RT_c h5 (ef 10 (by omega)) (ef 11 (by omega)) (er _ (by omega)) (fun k hk => er _ (by omega)), RE_c h6 (ef 12 (by omega)) (ef 13 (by omega)) (er _ (by omega)) (fun k hk => er _ (by omega)), RZ_c h7 (ef 14 (by omega)) (ef 15 (by omega)) (er _ (by omega)) (fun k hk => er _ (by omega)), by rw [er 37 (by omega)]; exact h8, by rw [er 38 (by omega)]; exact h9⟩
  unfold RO
  simp only [Nat.mul_zero, Nat.add_zero, Nat.mul_one, Nat.reduceAdd, zf_ap, zu_ap, if_true, Nat.reduceEqDiff, if_false]
  exact ⟨h2.1, h2.2.1, h2.2.2.1, h2.2.2.2.1, h2.2.2.2.2.1, trivial⟩
theorem RRs_22 {f : Nat → Nat → Int32} {s0 s1 : Int64} {r : Nat → Int32} (h : RR f s0 s1 r) (v : Int32) : RR (zf f 4 0 v) s0 s1 (zu r 22 v) := by
  obtain ⟨h1, ⟨h2, h2'⟩, ⟨h3, h3'⟩, h4, h5, h6, h7, h8, h9⟩ := h
  have er : ∀ k, k ≠ 22 → zu r 22 v k = r k := fun k hk => zu_ne hk
  have ef : ∀ k, k ≠ 4 → zf f 4 0 v k = f k := fun k hk => zf_ne hk
  refine ⟨RS_c h1 (ef 0 (by omega)) (fun k hk => er k (by omega)), ⟨RO_c h2 (ef 1 (by omega)) (fun k hk => er k (by omega)), ?_⟩, ⟨RV_c h3 (ef 2 (by omega)) (ef 3 (by omega)) (er _ (by omega)) (fun k hk => er _ (by omega)), RV_c h3' (ef 5 (by omega)) (ef 6 (by omega)) (er _ (by omega)) (fun k hk => er _ (by omega))⟩, RB_c h4 (ef 7 (by omega)) (ef 8 (by omega)) (ef 9 (by omega)) (fun k hk => er k (by omega)) (fun k hk => er _ (by omega)), RT_c h5 (ef 10 (by omega)) (ef 11 (by omega)) (er _ (by omega)) (fun k hk => er _ (by omega)), RE_c h6 (ef 12 (by omega)) (ef 13 (by omega)) (er _ (by omega)) (fun k hk => er _ (by omega)), RZ_c h7 (ef 14 (by omega)) (ef 15 (by omega)) (er _ (by omega)) (fun k hk => er _ (by omega)), by rw [er 37 (by omega)]; exact h8, by rw [er 38 (by omega)]; exact h9⟩
  unfold RO
  simp only [Nat.mul_zero, Nat.add_zero, Nat.mul_one, Nat.reduceAdd, zf_ap, zu_ap, if_true, Nat.reduceEqDiff, if_false]
  exact ⟨trivial, h2'.2.1, h2'.2.2.1, h2'.2.2.2.1, h2'.2.2.2.2.1, h2'.2.2.2.2.2⟩
theorem RRs_24 {f : Nat → Nat → Int32} {s0 s1 : Int64} {r : Nat → Int32} (h : RR f s0 s1 r) (v : Int32) : RR (zf f 4 1 v) s0 s1 (zu r 24 v) := by
  obtain ⟨h1, ⟨h2, h2'⟩, ⟨h3, h3'⟩, h4, h5, h6, h7, h8, h9⟩ := h
  have er : ∀ k, k ≠ 24 → zu r 24 v k = r k := fun k hk => zu_ne hk
  have ef : ∀ k, k ≠ 4 → zf f 4 1 v k = f k := fun k hk => zf_ne hk
  refine ⟨RS_c h1 (ef 0 (by omega)) (fun k hk => er k (by omega)), ⟨RO_c h2 (ef 1 (by omega)) (fun k hk => er k (by omega)), ?_⟩, ⟨RV_c h3 (ef 2 (by omega)) (ef 3 (by omega)) (er _ (by omega)) (fun k hk => er _ (by omega)), RV_c h3' (ef 5 (by omega)) (ef 6 (by omega)) (er _ (by omega)) (fun k hk => er _ (by omega))⟩, RB_c h4 (ef 7 (by omega)) (ef 8 (by omega)) (ef 9 (by omega)) (fun k hk => er k (by omega)) (fun k hk => er _ (by omega)), RT_c h5 (ef 10 (by omega)) (ef 11 (by omega)) (er _ (by omega)) (fun k hk => er _ (by omega)), RE_c h6 (ef 12 (by omega)) (ef 13 (by omega)) (er _ (by omega)) (fun k hk => er _ (by omega)), RZ_c h7 (ef 14 (by omega)) (ef 15 (by omega)) (er _ (by omega)) (fun k hk => er _ (by omega)), by rw [er 37 (by omega)]; exact h8, by rw [er 38 (by omega)]; exact h9⟩
  unfold RO
  simp only [Nat.mul_zero, Nat.add_zero, Nat.mul_one, Nat.reduceAdd, zf_ap, zu_ap, if_true, Nat.reduceEqDiff, if_false]
  exact ⟨h2'.1, trivial, h2'.2.2.1, h2'.2.2.2.1, h2'.2.2.2.2.1, h2'.2.2.2.2.2⟩
theorem RRs_28 {f : Nat → Nat → Int32} {s0 s1 : Int64} {r : Nat → Int32} (h : RR f s0 s1 r) (v : Int32) : RR (zf f 4 2 v) s0 s1 (zu r 28 v) := by
  obtain ⟨h1, ⟨h2, h2'⟩, ⟨h3, h3'⟩, h4, h5, h6, h7, h8, h9⟩ := h
  have er : ∀ k, k ≠ 28 → zu r 28 v k = r k := fun k hk => zu_ne hk
  have ef : ∀ k, k ≠ 4 → zf f 4 2 v k = f k := fun k hk => zf_ne hk
  refine ⟨RS_c h1 (ef 0 (by omega)) (fun k hk => er k (by omega)), ⟨RO_c h2 (ef 1 (by omega)) (fun k hk => er k (by omega)), ?_⟩, ⟨RV_c h3 (ef 2 (by omega)) (ef 3 (by omega)) (er _ (by omega)) (fun k hk => er _ (by omega)), RV_c h3' (ef 5 (by omega)) (ef 6 (by omega)) (er _ (by omega)) (fun k hk => er _ (by omega))⟩, RB_c h4 (ef 7 (by omega)) (ef 8 (by omega)) (ef 9 (by omega)) (fun k hk => er k (by omega)) (fun k hk => er _ (by omega)), RT_c h5 (ef 10 (by omega)) (ef 11 (by omega)) (er _ (by omega)) (fun k hk => er _ (by omega)), RE_c h6 (ef 12 (by omega)) (ef 13 (by omega)) (er _ (by omega)) (fun k hk => er _ (by omega)), RZ_c h7 (ef 14 (by omega)) (ef 15 (by omega)) (er _ (by omega)) (fun k hk => er _ (by omega)), by rw [er 37 (by omega)]; exact h8, by rw [er 38 (by omega)]; exact h9⟩
  unfold RO
  simp only [Nat.mul_zero, Nat.add_zero, Nat.mul_one, Nat.reduceAdd, zf_ap, zu_ap, if_true, Nat.reduceEqDiff, if_false]
  exact ⟨h2'.1, h2'.2.1, trivial, h2'.2.2.2.1, h2'.2.2.2.2.1, h2'.2.2.2.2.2⟩
theorem RRs_32 {f : Nat → Nat → Int32} {s0 s1 : Int64} {r : Nat → Int32} (h : RR f s0 s1 r) (v : Int32) : RR (zf f 4 3 v) s0 s1 (zu r 32 v) := by
  obtain ⟨h1, ⟨h2, h2'⟩, ⟨h3, h3'⟩, h4, h5, h6, h7, h8, h9⟩ := h
  have er : ∀ k, k ≠ 32 → zu r 32 v k = r k := fun k hk => zu_ne hk
  have ef : ∀ k, k ≠ 4 → zf f 4 3 v k = f k := fun k hk => zf_ne hk
  refine ⟨RS_c h1 (ef 0 (by omega)) (fun k hk => er k (by omega)), ⟨RO_c h2 (ef 1 (by omega)) (fun k hk => er k (by omega)), ?_⟩, ⟨RV_c h3 (ef 2 (by omega)) (ef 3 (by omega)) (er _ (by omega)) (fun k hk => er _ (by omega)), RV_c h3' (ef 5 (by omega)) (ef 6 (by omega)) (er _ (by omega)) (fun k hk => er _ (by omega))⟩, RB_c h4 (ef 7 (by omega)) (ef 8 (by omega)) (ef 9 (by omega)) (fun k hk => er k (by omega)) (fun k hk => er _ (by omega)), RT_c h5 (ef 10 (by omega)) (ef 11 (by omega)) (er _ (by omega)) (fun k hk => er _ (by omega)), RE_c h6 (ef 12 (by omega)) (ef 13 (by omega)) (er _ (by omega)) (fun k hk => er _ (by omega)), RZ_c h7 (ef 14 (by omega)) (ef 15 (by omega)) (er _ (by omega)) (fun k hk => er _ (by omega)), by rw [er 37 (by omega)]; exact h8, by rw [er 38 (by omega)]; exact h9⟩
  unfold RO
  simp only [Nat.mul_zero, Nat.add_zero, Nat.mul_one, Nat.reduceAdd, zf_ap, zu_ap, if_true, Nat.reduceEqDiff, if_false]
  exact ⟨h2'.1, h2'.2.1, h2'.2.2.1, trivial, h2'.2.2.2.2.1, h2'.2.2.2.2.2⟩
theorem RRs_34 {f : Nat → Nat → Int32} {s0 s1 : Int64} {r : Nat → Int32} (h : RR f s0 s1 r) (v : Int32) : RR (zf f 4 4 v) s0 s1 (zu r 34 v) := by
  obtain ⟨h1, ⟨h2, h2'⟩, ⟨h3, h3'⟩, h4, h5, h6, h7, h8, h9⟩ := h
  have er : ∀ k, k ≠ 34 → zu r 34 v k = r k := fun k hk => zu_ne hk
  have ef : ∀ k, k ≠ 4 → zf f 4 4 v k = f k := fun k hk => zf_ne hk
  refine ⟨RS_c h1 (ef 0 (by omega)) (fun k hk => er k (by omega)), ⟨RO_c h2 (ef 1 (by omega)) (fun k hk => er k (by omega)), ?_⟩, ⟨RV_c h3 (ef 2 (by omega)) (ef 3 (by omega)) (er _ (by omega)) (fun k hk => er _ (by omega)), RV_c h3' (ef 5 (by omega)) (ef 6 (by omega)) (er _ (by omega)) (fun k hk => er _ (by omega))⟩, RB_c h4 (ef 7 (by omega)) (ef 8 (by omega)) (ef 9 (by omega)) (fun k hk => er k (by omega)) (fun k hk => er _ (by omega)), RT_c h5 (ef 10 (by omega)) (ef 11 (by omega)) (er _ (by omega)) (fun k hk => er _ (by omega)), RE_c h6 (ef 12 (by omega)) (ef 13 (by omega)) (er _ (by omega)) (fun k hk => er _ (by omega)), RZ_c h7 (ef 14 (by omega)) (ef 15 (by omega)) (er _ (by omega)) (fun k hk => er _ (by omega)), by rw [er 37 (by omega)]; exact h8, by rw [er 38 (by omega)]; exact h9⟩
  unfold RO
  simp only [Nat.mul_zero, Nat.add_zero, Nat.mul_one, Nat.reduceAdd, zf_ap, zu_ap, if_true, Nat.reduceEqDiff, if_false]
  exact ⟨h2'.1, h2'.2.1, h2'.2.2.1, h2'.2.2.2.1, trivial, h2'.2.2.2.2.2⟩
theorem RRs_36 {f : Nat → Nat → Int32} {s0 s1 : Int64} {r : Nat → Int32} (h : RR f s0 s1 r) (v : Int32) : RR (zf f 4 5 v) s0 s1 (zu r 36 v) := by
  obtain ⟨h1, ⟨h2, h2'⟩, ⟨h3, h3'⟩, h4, h5, h6, h7, h8, h9⟩ := h
  have er : ∀ k, k ≠ 36 → zu r 36 v k = r k := fun k hk => zu_ne hk
  have ef : ∀ k, k ≠ 4 → zf f 4 5 v k = f k := fun k hk => zf_ne hk
  refine ⟨RS_c h1 (ef 0 (by omega)) (fun k hk => er k (by omega)), ⟨RO_c h2 (ef 1 (by omega)) (fun k hk => er k (by omega)), ?_⟩, ⟨RV_c h3 (ef 2 (by omega)) (ef 3 (by omega)) (er _ (by omega)) (fun k hk => er _ (by omega)), RV_c h3' (ef 5 (by omega)) (ef 6 (by omega)) (er _ (by omega)) (fun k hk => er _ (by omega))⟩, RB_c h4 (ef 7 (by omega)) (ef 8 (by omega)) (ef 9 (by omega)) (fun k hk => er k (by omega)) (fun k hk => er _ (by omega)), RT_c h5 (ef 10 (by omega)) (ef 11 (by omega)) (er _ (by omega)) (fun k hk => er _ (by omega)), RE_c h6 (ef 12 (by omega)) (ef 13 (by omega)) (er _ (by omega)) (fun k hk => er _ (by omega)), RZ_c h7 (ef 14 (by omega)) (ef 15 (by omega)) (er _ (by omega)) (fun k hk => er _ (by omega)), by rw [er 37 (by omega)]; exact h8, by rw [er 38 (by omega)]; exact h9⟩
  unfold RO
  simp only [Nat.mul_zero, Nat.add_zero, Nat.mul_one, Nat.reduceAdd, zf_ap, zu_ap, if_true, Nat.reduceEqDiff, if_false]
  exact ⟨h2'.1, h2'.2.1, h2'.2.2.1, h2'.2.2.2.1, h2'.2.2.2.2.1, trivial⟩
theorem rPut_zu (r : Nat → Int32) {b cnt k : Nat} {v x y z : Int32} (h1 : k ≠ cnt) (h2 : ¬ (b + 3 * (r cnt).toNatClampNeg ≤ k ∧ k < b + 3 * (r cnt).toNatClampNeg + 3)) : rPut (zu r k v) b cnt x y z = zu (rPut r b cnt x y z) k v := by
  have hc : zu r k v cnt = r cnt := zu_ne (Ne.symm h1)
  funext j
  unfold rPut
  rw [hc]
  by_cases hj : j = k
  · subst hj
    rw [zu_self, zu_ne h1, zu_ne (by omega), zu_ne (by omega), zu_ne (by omega), zu_self]
  · rw [zu_ne hj]
    simp only [zu_ap]
    rw [if_neg hj]
theorem rNotes_zu (r : Nat → Int32) {k : Nat} {v x y : Int32} (h0 : 0 ≤ (r 18).toInt ∧ (r 18).toInt ≤ 40) (h5 : k ≠ 5) (h1 : k ≠ 18) (h2 : ¬ (99 ≤ k ∧ k < 219)) : rNotes (zu r k v) x y = zu (rNotes r x y) k v := by
  have c0 := ncl h0.1
  have e18 : zu r k v 18 = r 18 := zu_ne (Ne.symm h1)
  have e5 : zu r k v 5 = r 5 := zu_ne (Ne.symm h5)
  unfold rNotes
  rw [e18, e5]
  by_cases h : r 18 = 40
  · rw [if_pos h, if_pos h]
    have hc : rCut (zu r k v) = zu (rCut r) k v := by
      unfold rCut zcut
      rw [e18]
      funext j
      by_cases hj : j = 18
      · subst hj; rw [zu_self, zu_ne (Ne.symm h1), zu_self]
      · rw [zu_ne hj]
        by_cases hk : j = k
        · subst hk; rw [zu_self, if_neg (by omega), zu_self]
        · rw [zu_ne hk, zu_ne hk, zu_ne hj]
          by_cases h9 : 99 ≤ j ∧ j < 99 + 117
          · rw [if_pos h9, if_pos h9, zu_ne (by omega)]
          · rw [if_neg h9, if_neg h9]
    rw [hc]
    have e : (rCut r 18).toNatClampNeg = 39 := by
      unfold rCut
      rw [zu_self, h]
      decide
    exact rPut_zu _ h1 (by rw [e]; omega)
  · rw [if_neg h, if_neg h]
    have h9 : (r 18).toInt ≠ 40 := fun e => h (by rw [neq, e]; rfl)
    exact rPut_zu _ h1 (by omega)
theorem rNotes_ends (r : Nat → Int32) {x y : Int32} (h0 : 0 ≤ (r 18).toInt ∧ (r 18).toInt ≤ 40) : rNotes (rEnds r) x y = rEnds (rNotes r x y) := by
  have e : ∀ (r' : Nat → Int32) (k : Nat) (v : Int32), k ≠ 18 → r' 18 = r 18 → zu r' k v 18 = r 18 := fun r' k v hk he => by rw [zu_ne (Ne.symm hk)]; exact he
  unfold rEnds rClears
  rw [rNotes_zu _ (by simp only [zu_ap, Nat.reduceEqDiff, if_false]; exact h0) (by decide) (by decide) (by decide),
    rNotes_zu _ (by simp only [zu_ap, Nat.reduceEqDiff, if_false]; exact h0) (by decide) (by decide) (by decide),
    rNotes_zu _ (by simp only [zu_ap, Nat.reduceEqDiff, if_false]; exact h0) (by decide) (by decide) (by decide),
    rNotes_zu _ (by simp only [zu_ap, Nat.reduceEqDiff, if_false]; exact h0) (by decide) (by decide) (by decide),
    rNotes_zu _ (by simp only [zu_ap, Nat.reduceEqDiff, if_false]; exact h0) (by decide) (by decide) (by decide),
    rNotes_zu _ (by simp only [zu_ap, Nat.reduceEqDiff, if_false]; exact h0) (by decide) (by decide) (by decide),
    rNotes_zu _ (by simp only [zu_ap, Nat.reduceEqDiff, if_false]; exact h0) (by decide) (by decide) (by decide),
    rNotes_zu _ (by simp only [zu_ap, Nat.reduceEqDiff, if_false]; exact h0) (by decide) (by decide) (by decide),
    rNotes_zu _ h0 (by decide) (by decide) (by decide)]
/-- the plan of a machine, over the base store -/
def zPl (σ : zS) (ln : Nat → Nat) (p : Nat) (r : Nat → Int32) : Prop := (gi σ p 0 = r 0 ∧ gi σ p 1 = r 1 ∧ gi σ p 3 = r 3 ∧ gi σ p 4 = r 4) ∧ (gr σ p 6 = some (p + 3) ∧ gr σ p 7 = some (p + 65)) ∧ (gi σ (p + 3) 2 = r 25 ∧ gi σ (p + 65) 2 = r 26) ∧ (gr σ (p + 3) 3 = some (p + 4) ∧ gr σ (p + 65) 3 = some (p + 66) ∧ ln (p + 4) = 12 ∧ ln (p + 66) = 12) ∧ ∀ q, q < 2 → ∀ k, k < 12 → (gr σ (p + 4 + 62 * q) k = some (p + 5 + 62 * q + 5 * k) ∧ gr σ (p + 5 + 62 * q + 5 * k) 1 = some (p + 8 + 62 * q + 5 * k) ∧ gr σ (p + 8 + 62 * q + 5 * k) 0 = some (p + 9 + 62 * q + 5 * k) ∧ ln (p + 9 + 62 * q + 5 * k) = 62) ∧ ((k : Int) < (r (25 + q)).toInt → gi σ (p + 8 + 62 * q + 5 * k) 1 = nI (rPath r (12 * q + k)).length ∧ ∀ j, j < (rPath r (12 * q + k)).length → gi σ (p + 9 + 62 * q + 5 * k) j = (rPath r (12 * q + k)).getD j 0)
def zkp (r r' : Nat → Int32) : Prop := ∀ k, (k ≤ 4 ∧ k ≠ 2 ∨ k = 25 ∨ k = 26 ∨ (219 ≤ k ∧ k < 963)) → r' k = r k
theorem zkp.rf {r : Nat → Int32} : zkp r r := fun _ _ => rfl
theorem zkp.tr {r r' r'' : Nat → Int32} (h : zkp r r') (h2 : zkp r' r'') : zkp r r'' := fun k hk => (h2 k hk).trans (h k hk)
theorem zkp.path {r r' : Nat → Int32} (h : zkp r r') {a : Nat} (ha : a < 24) (hl : (r (219 + a)).toInt ≤ 30) : rPath r' a = rPath r a := by
  have hlen : r' (219 + a) = r (219 + a) := h _ (by omega)
  have h0 : r' 0 = r 0 := h 0 (by omega)
  have hn : (r (219 + a)).toNatClampNeg ≤ 30 := by rw [ncln]; omega
  have hc : ∀ k, k < 30 → rChr r' a k = rChr r a k := fun k hk => h _ (by omega)
  have he : ∀ m, m ≤ 30 → zenc (rChr r' a) m = zenc (rChr r a) m := by
    intro m
    induction m with
    | zero => intro _; rfl
    | succ m ih =>
      intro hm
      rw [zenc, zenc, ih (by omega), hc m (by omega)]
  unfold rPath zpath
  rw [hlen, h0, he _ hn]
theorem zPl.c {σ : zS} {ln : Nat → Nat} {p : Nat} {r r' : Nat → Int32} (h : zPl σ ln p r) (e : zkp r r') (hW : zW r) : zPl σ ln p r' := by
  obtain ⟨⟨a1, a2, a3, a4⟩, b1, ⟨c1, c2⟩, d1, e1⟩ := h
  unfold zPl
  rw [e 0 (by omega), e 1 (by omega), e 3 (by omega), e 4 (by omega), e 25 (by omega), e 26 (by omega)]
  refine ⟨⟨a1, a2, a3, a4⟩, b1, ⟨c1, c2⟩, d1, fun q hq k hk => ⟨(e1 q hq k hk).1, fun hk2 => ?_⟩⟩
  rw [e (25 + q) (by omega)] at hk2
  rw [e.path (by omega) (hW.len _ (by omega)).2]
  exact (e1 q hq k hk).2 hk2
