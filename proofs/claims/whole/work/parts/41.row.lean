/-! THE MODEL'S ROW: what the model's own store is, over a base store; rows of numbers as functions -/
def zu (r : Nat → Int32) (k : Nat) (v : Int32) : Nat → Int32 := fun j => if j = k then v else r j
theorem zu_ap (r : Nat → Int32) (k : Nat) (v : Int32) (j : Nat) : zu r k v j = if j = k then v else r j := rfl
theorem zu_self (r : Nat → Int32) (k : Nat) (v : Int32) : zu r k v k = v := if_pos rfl
theorem zu_ne {r : Nat → Int32} {k : Nat} {v : Int32} {j : Nat} (h : j ≠ k) : zu r k v j = r j := if_neg h
/-- the model's store: its row, its path, how many of it count, the farthest offset -/
def zms (σ : zS) (r pf : Nat → Int32) (n far : Int32) : zS := (fun a => if a = 456 then r else if a = 460 then pf else if a = 455 then (fun j => if j = 7 then n else if j = 9 then far else σ.1 455 j) else σ.1 a, σ.2)
theorem gr_zms (σ : zS) (r pf : Nat → Int32) (n far : Int32) : gr (zms σ r pf n far) = gr σ := rfl
theorem gl_zms (σ : zS) (r pf : Nat → Int32) (n far : Int32) : gl (zms σ r pf n far) = gl σ := rfl
theorem gd_zms (σ : zS) (r pf : Nat → Int32) (n far : Int32) : gd (zms σ r pf n far) = gd σ := rfl
theorem gi_zms_q (σ : zS) (r pf : Nat → Int32) (n far : Int32) (k : Nat) : gi (zms σ r pf n far) 456 k = r k := rfl
theorem gi_zms_p (σ : zS) (r pf : Nat → Int32) (n far : Int32) (k : Nat) : gi (zms σ r pf n far) 460 k = pf k := rfl
theorem gi_zms_n (σ : zS) (r pf : Nat → Int32) (n far : Int32) : gi (zms σ r pf n far) 455 7 = n := rfl
theorem gi_zms_f (σ : zS) (r pf : Nat → Int32) (n far : Int32) : gi (zms σ r pf n far) 455 9 = far := rfl
theorem gi_zms_t (σ : zS) (r pf : Nat → Int32) (n far : Int32) : gi (zms σ r pf n far) 455 0 = gi σ 455 0 := rfl
theorem gi_zms_a (σ : zS) (r pf : Nat → Int32) (n far : Int32) {a : Nat} (h1 : a ≠ 456) (h2 : a ≠ 460) (h3 : a ≠ 455) (k : Nat) : gi (zms σ r pf n far) a k = gi σ a k := by
  show (if a = 456 then r else if a = 460 then pf else if a = 455 then (fun j => if j = 7 then n else if j = 9 then far else σ.1 455 j) else σ.1 a) k = _
  rw [if_neg h1, if_neg h2, if_neg h3]
  rfl
theorem zS_ext {σ τ : zS} (h1 : ∀ a j, gi σ a j = gi τ a j) (h2 : σ.2 = τ.2) : σ = τ := by
  obtain ⟨s1, s2⟩ := σ
  obtain ⟨t1, t2⟩ := τ
  have e : s1 = t1 := funext fun a => funext fun j => h1 a j
  have e2 : s2 = t2 := h2
  rw [e, e2]
theorem gi_zms (σ : zS) (r pf : Nat → Int32) (n far : Int32) (a j : Nat) : gi (zms σ r pf n far) a j = if a = 456 then r j else if a = 460 then pf j else if a = 455 then (if j = 7 then n else if j = 9 then far else gi σ 455 j) else gi σ a j := by
  show (if a = 456 then r else if a = 460 then pf else if a = 455 then (fun j => if j = 7 then n else if j = 9 then far else σ.1 455 j) else σ.1 a) j = _
  split
  · rfl
  · split
    · rfl
    · split <;> rfl
theorem si_zms_q (σ : zS) (r pf : Nat → Int32) (n far : Int32) (k : Nat) (v : Int32) : si (zms σ r pf n far) 456 k v = zms σ (zu r k v) pf n far := by
  refine zS_ext (fun a j => ?_) rfl
  simp only [gi_si, gi_zms, zu_ap]
  repeat' split
  all_goals (first | rfl | (exfalso; omega) | simp_all)
theorem si_zms_p (σ : zS) (r pf : Nat → Int32) (n far : Int32) (k : Nat) (v : Int32) : si (zms σ r pf n far) 460 k v = zms σ r (zu pf k v) n far := by
  refine zS_ext (fun a j => ?_) rfl
  simp only [gi_si, gi_zms, zu_ap]
  repeat' split
  all_goals (first | rfl | (exfalso; omega) | simp_all)
theorem si_zms_n (σ : zS) (r pf : Nat → Int32) (n far : Int32) (v : Int32) : si (zms σ r pf n far) 455 7 v = zms σ r pf v far := by
  refine zS_ext (fun a j => ?_) rfl
  simp only [gi_si, gi_zms]
  repeat' split
  all_goals (first | rfl | (exfalso; omega) | simp_all)
theorem si_zms_f (σ : zS) (r pf : Nat → Int32) (n far : Int32) (v : Int32) : si (zms σ r pf n far) 455 9 v = zms σ r pf n v := by
  refine zS_ext (fun a j => ?_) rfl
  simp only [gi_si, gi_zms]
  repeat' split
  all_goals (first | rfl | (exfalso; omega) | simp_all)
theorem si_zms_t (σ : zS) (r pf : Nat → Int32) (n far : Int32) (v : Int32) : si (zms σ r pf n far) 455 0 v = zms (si σ 455 0 v) r pf n far := by
  refine zS_ext (fun a j => ?_) rfl
  simp only [gi_si, gi_zms]
  repeat' split
  all_goals (first | rfl | (exfalso; omega) | simp_all)
theorem vq0 : vp_in (0 : Int32) 4763 := nin (by decide) (by decide)
theorem cq0 : (0 : Int32).toNatClampNeg = 0 := rfl
theorem vq1 : vp_in (1 : Int32) 4763 := nin (by decide) (by decide)
theorem cq1 : (1 : Int32).toNatClampNeg = 1 := rfl
theorem vq2 : vp_in (2 : Int32) 4763 := nin (by decide) (by decide)
theorem cq2 : (2 : Int32).toNatClampNeg = 2 := rfl
theorem vq3 : vp_in (3 : Int32) 4763 := nin (by decide) (by decide)
theorem cq3 : (3 : Int32).toNatClampNeg = 3 := rfl
theorem vq4 : vp_in (4 : Int32) 4763 := nin (by decide) (by decide)
theorem cq4 : (4 : Int32).toNatClampNeg = 4 := rfl
theorem vq5 : vp_in (5 : Int32) 4763 := nin (by decide) (by decide)
theorem cq5 : (5 : Int32).toNatClampNeg = 5 := rfl
theorem vq6 : vp_in (6 : Int32) 4763 := nin (by decide) (by decide)
theorem cq6 : (6 : Int32).toNatClampNeg = 6 := rfl
theorem vq7 : vp_in (7 : Int32) 4763 := nin (by decide) (by decide)
theorem cq7 : (7 : Int32).toNatClampNeg = 7 := rfl
theorem vq8 : vp_in (8 : Int32) 4763 := nin (by decide) (by decide)
theorem cq8 : (8 : Int32).toNatClampNeg = 8 := rfl
theorem vq9 : vp_in (9 : Int32) 4763 := nin (by decide) (by decide)
theorem cq9 : (9 : Int32).toNatClampNeg = 9 := rfl
theorem vq10 : vp_in (10 : Int32) 4763 := nin (by decide) (by decide)
theorem cq10 : (10 : Int32).toNatClampNeg = 10 := rfl
theorem vq11 : vp_in (11 : Int32) 4763 := nin (by decide) (by decide)
theorem cq11 : (11 : Int32).toNatClampNeg = 11 := rfl
theorem vq12 : vp_in (12 : Int32) 4763 := nin (by decide) (by decide)
theorem cq12 : (12 : Int32).toNatClampNeg = 12 := rfl
theorem vq13 : vp_in (13 : Int32) 4763 := nin (by decide) (by decide)
theorem cq13 : (13 : Int32).toNatClampNeg = 13 := rfl
theorem vq14 : vp_in (14 : Int32) 4763 := nin (by decide) (by decide)
theorem cq14 : (14 : Int32).toNatClampNeg = 14 := rfl
theorem vq15 : vp_in (15 : Int32) 4763 := nin (by decide) (by decide)
theorem cq15 : (15 : Int32).toNatClampNeg = 15 := rfl
theorem vq16 : vp_in (16 : Int32) 4763 := nin (by decide) (by decide)
theorem cq16 : (16 : Int32).toNatClampNeg = 16 := rfl
theorem vq17 : vp_in (17 : Int32) 4763 := nin (by decide) (by decide)
theorem cq17 : (17 : Int32).toNatClampNeg = 17 := rfl
theorem vq18 : vp_in (18 : Int32) 4763 := nin (by decide) (by decide)
theorem cq18 : (18 : Int32).toNatClampNeg = 18 := rfl
theorem vq19 : vp_in (19 : Int32) 4763 := nin (by decide) (by decide)
theorem cq19 : (19 : Int32).toNatClampNeg = 19 := rfl
theorem vq20 : vp_in (20 : Int32) 4763 := nin (by decide) (by decide)
theorem cq20 : (20 : Int32).toNatClampNeg = 20 := rfl
theorem vq21 : vp_in (21 : Int32) 4763 := nin (by decide) (by decide)
theorem cq21 : (21 : Int32).toNatClampNeg = 21 := rfl
theorem vq22 : vp_in (22 : Int32) 4763 := nin (by decide) (by decide)
theorem cq22 : (22 : Int32).toNatClampNeg = 22 := rfl
theorem vq23 : vp_in (23 : Int32) 4763 := nin (by decide) (by decide)
theorem cq23 : (23 : Int32).toNatClampNeg = 23 := rfl
theorem vq24 : vp_in (24 : Int32) 4763 := nin (by decide) (by decide)
theorem cq24 : (24 : Int32).toNatClampNeg = 24 := rfl
theorem vq25 : vp_in (25 : Int32) 4763 := nin (by decide) (by decide)
theorem cq25 : (25 : Int32).toNatClampNeg = 25 := rfl
theorem vq26 : vp_in (26 : Int32) 4763 := nin (by decide) (by decide)
theorem cq26 : (26 : Int32).toNatClampNeg = 26 := rfl
theorem vq33 : vp_in (33 : Int32) 4763 := nin (by decide) (by decide)
theorem cq33 : (33 : Int32).toNatClampNeg = 33 := rfl
theorem vq34 : vp_in (34 : Int32) 4763 := nin (by decide) (by decide)
theorem cq34 : (34 : Int32).toNatClampNeg = 34 := rfl
theorem vq2963 : vp_in (2963 : Int32) 4763 := nin (by decide) (by decide)
theorem cq2963 : (2963 : Int32).toNatClampNeg = 2963 := rfl
theorem vq2964 : vp_in (2964 : Int32) 4763 := nin (by decide) (by decide)
theorem cq2964 : (2964 : Int32).toNatClampNeg = 2964 := rfl
theorem vq2965 : vp_in (2965 : Int32) 4763 := nin (by decide) (by decide)
theorem cq2965 : (2965 : Int32).toNatClampNeg = 2965 := rfl
def rClears (r : Nat → Int32) : Nat → Int32 := zu (zu (zu (zu r 11 0) 12 0) 13 0) 14 0
def rEnds (r : Nat → Int32) : Nat → Int32 := rClears (zu (zu (zu (zu (zu r 6 (-1)) 7 0) 9 0) 10 0) 19 0)
def rBegins (r : Nat → Int32) : Nat → Int32 := zu (zu r 7 0) 9 0
theorem m_clears {ln : Nat → Nat} {σ : zS} {r pf : Nat → Int32} {n far : Int32} (g1 : gr σ 455 1 = some 456) (l1 : ln 456 = 4763) {Q : zS → Prop} : wX12_clears ln (zms σ r pf n far) 455 Q ↔ Q (zms σ (rClears r) pf n far) := by
  simp only [wX12_clears, gr_zms, g1, Option.some.injEq, exists_eq_left', l1, vq11, vq12, vq13, vq14, cq11, cq12, cq13, cq14, si_zms_q, forall_eq, true_and, rClears]
theorem m_begins {ln : Nat → Nat} {σ : zS} {r pf : Nat → Int32} {n far : Int32} (g1 : gr σ 455 1 = some 456) (l1 : ln 456 = 4763) {Q : zS → Prop} : wX12_begins ln (zms σ r pf n far) 455 Q ↔ Q (zms σ (rBegins r) pf n far) := by
  simp only [wX12_begins, gr_zms, g1, Option.some.injEq, exists_eq_left', l1, vq7, vq9, cq7, cq9, si_zms_q, forall_eq, true_and, rBegins]
theorem m_ends {ln : Nat → Nat} {σ : zS} {r pf : Nat → Int32} {n far : Int32} (g1 : gr σ 455 1 = some 456) (l1 : ln 456 = 4763) {Q : zS → Prop} : wX12_ends ln (zms σ r pf n far) 455 Q ↔ Q (zms σ (rEnds r) pf n far) := by
  simp only [wX12_ends, gr_zms, g1, Option.some.injEq, exists_eq_left', l1, vq6, vq7, vq9, vq10, vq19, cq6, cq7, cq9, cq10, cq19, si_zms_q, forall_eq, true_and, rEnds, m_clears g1 l1]
