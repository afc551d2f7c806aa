/-! THE MODEL'S STEPS: prints -/
theorem oix {ov : Int32} {q : Nat} (ho : ov = 0 ∧ q = 0 ∨ ov = 1 ∧ q = 1) (b : Nat) (hb : b ≤ 4000) : (nI b + ov).toNatClampNeg = b + q ∧ vp_in (nI b + ov) 4763 := by
  rcases ho with ⟨rfl, rfl⟩ | ⟨rfl, rfl⟩
  · have e : nI b + 0 = nI b := Int32.add_zero _
    rw [e]
    exact ⟨nI_clamp (by omega), vp_in_nI (by omega) (by decide)⟩
  · have e : nI b + 1 = nI (b + 1) := nI_1 b
    rw [e]
    exact ⟨nI_clamp (by omega), vp_in_nI (by omega) (by decide)⟩
def pClamp (x m : Int32) : Int32 := if -m ≤ x then (if x ≤ m then x else m) else -m
def pAbs (x : Int32) : Int32 := if 0 ≤ x then x else -x
def rNear (r : Nat → Int32) (q : Nat) : Int32 := (r (21 + q) + 500) / 1000
def rOff (r : Nat → Int32) (q : Nat) : Int32 := r (21 + q) - 1000 * rNear r q
def rPos (r : Nat → Int32) (q : Nat) : Int32 := rNear r q - rNear r q / r 0 * r 0
def rTurned (r : Nat → Int32) (q : Nat) (by' : Int32) : Nat → Int32 := zu r (21 + q) (mI ((r (21 + q)).toInt - by'.toInt) (1000 * (r 0).toInt))
def rPc (r : Nat → Int32) (q : Nat) (off : Int32) : Nat → Int32 := zu (zu r (31 + q) (r (31 + q) + 1)) (37 + q) (r (37 + q) + off)
def rP2 (r : Nat → Int32) (q : Nat) (a : Int32) : Nat → Int32 := if a ≤ r (35 + q) then r else zu r (35 + q) a
def rP3 (r : Nat → Int32) (q : Nat) (pr pos : Int32) : Nat → Int32 := if pr = pos then r else zu r (33 + q) (r (33 + q) + 1)
def fFar (far a : Int32) : Int32 := if a ≤ far then far else a
def rPrinted (r : Nat → Int32) (q : Nat) (pos : Int32) : Nat → Int32 := rP3 (rP2 (rPc (rTurned r q (pClamp (rOff r q) (r 2))) q (rOff r q)) q (pAbs (rOff r q))) q (rPos r q) pos
def rPrints (r : Nat → Int32) (q : Nat) (pos : Int32) : Nat → Int32 := rMeans (zu (rPrinted r q pos) 15 (rPrinted r q pos 5)) q (rPos r q)
theorem m_p216 {ln : Nat → Nat} {σ : zS} {r pf : Nat → Int32} {n far : Int32} (g1 : gr σ 455 1 = some 456) (l1 : ln 456 = 4763) {q : Nat} (ok : zOkM (zu r 15 (r 5)) q) {p : Int32} (hp2 : p.toInt < 28) {Q : zS → Prop} (hq : Q (zms σ (rMeans (zu r 15 (r 5)) q p) pf n far)) : wX12_printsAt_216 ln Q 455 p (zms σ r pf n far) := by
  simp only [wX12_printsAt_216, gr_zms, g1, Option.some.injEq, exists_eq_left', l1, si_zms_q, gi_zms_q, forall_eq, true_and, vq5, cq5, vq15, cq15]
  exact m_means g1 l1 ok hp2 hq
theorem m_p197 {ln : Nat → Nat} {σ : zS} {r pf : Nat → Int32} {n far : Int32} (g1 : gr σ 455 1 = some 456) (l1 : ln 456 = 4763) {ov : Int32} {q : Nat} (ho : ov = 0 ∧ q = 0 ∨ ov = 1 ∧ q = 1) {p pos : Int32} (ok : zOkM (zu (rP3 r q p pos) 15 (rP3 r q p pos 5)) q) (hp2 : p.toInt < 28) {Q : zS → Prop} (hq : Q (zms σ (rMeans (zu (rP3 r q p pos) 15 (rP3 r q p pos 5)) q p) pf n far)) : wX12_printsAt_197 ln Q 455 pos ov p (zms σ r pf n far) := by
  have i33 : ((33 : Int32) + ov).toNatClampNeg = 33 + q := (oix ho 33 (by decide)).1
  have v33 : vp_in ((33 : Int32) + ov) 4763 := (oix ho 33 (by decide)).2
  unfold rP3 at hq ok
  simp only [wX12_printsAt_197, gr_zms, g1, Option.some.injEq, exists_eq_left', l1, si_zms_q, gi_zms_q, forall_eq, true_and, i33, v33]
  refine ⟨fun h => ?_, fun h => ?_⟩
  · rw [if_pos h] at hq ok
    exact m_p216 g1 l1 ok hp2 hq
  · rw [if_neg h] at hq ok
    exact m_p216 g1 l1 ok hp2 hq
theorem m_p182 {ln : Nat → Nat} {σ : zS} {r pf : Nat → Int32} {n far : Int32} (g1 : gr σ 455 1 = some 456) (l1 : ln 456 = 4763) {ov : Int32} {q : Nat} (ho : ov = 0 ∧ q = 0 ∨ ov = 1 ∧ q = 1) {p pos a : Int32} (ok : zOkM (zu (rP3 r q p pos) 15 (rP3 r q p pos 5)) q) (hp2 : p.toInt < 28) {Q : zS → Prop} (hq : Q (zms σ (rMeans (zu (rP3 r q p pos) 15 (rP3 r q p pos 5)) q p) pf n (fFar far a))) : wX12_printsAt_182 ln Q 455 pos ov p a (zms σ r pf n far) := by
  unfold fFar at hq
  simp only [wX12_printsAt_182, gi_zms_f, si_zms_f, forall_eq]
  refine ⟨fun h => ?_, fun h => ?_⟩
  · rw [if_pos h] at hq
    exact m_p197 g1 l1 ho ok hp2 hq
  · rw [if_neg h] at hq
    exact m_p197 g1 l1 ho ok hp2 hq
theorem m_p128 {ln : Nat → Nat} {σ : zS} {r pf : Nat → Int32} {n far : Int32} (g1 : gr σ 455 1 = some 456) (l1 : ln 456 = 4763) {ov : Int32} {q : Nat} (ho : ov = 0 ∧ q = 0 ∨ ov = 1 ∧ q = 1) {p pos a off : Int32} (ok : zOkM (zu (rP3 (rP2 (rPc r q off) q a) q p pos) 15 (rP3 (rP2 (rPc r q off) q a) q p pos 5)) q) (hp2 : p.toInt < 28) {Q : zS → Prop} (hq : Q (zms σ (rMeans (zu (rP3 (rP2 (rPc r q off) q a) q p pos) 15 (rP3 (rP2 (rPc r q off) q a) q p pos 5)) q p) pf n (fFar far a))) : wX12_printsAt_128 ln Q 455 pos ov p off a (zms σ r pf n far) := by
  have i31 : ((31 : Int32) + ov).toNatClampNeg = 31 + q := (oix ho 31 (by decide)).1
  have v31 : vp_in ((31 : Int32) + ov) 4763 := (oix ho 31 (by decide)).2
  have i35 : ((35 : Int32) + ov).toNatClampNeg = 35 + q := (oix ho 35 (by decide)).1
  have v35 : vp_in ((35 : Int32) + ov) 4763 := (oix ho 35 (by decide)).2
  have i37 : ((37 : Int32) + ov).toNatClampNeg = 37 + q := (oix ho 37 (by decide)).1
  have v37 : vp_in ((37 : Int32) + ov) 4763 := (oix ho 37 (by decide)).2
  have n1 : ¬ 37 + q = 31 + q := by omega
  unfold rP2 at hq ok
  simp only [wX12_printsAt_128, gr_zms, g1, Option.some.injEq, exists_eq_left', l1, si_zms_q, gi_zms_q, forall_eq, true_and, i31, v31, i35, v35, i37, v37, zu_ap r (31 + q), n1, if_false]
  refine ⟨fun h => ?_, fun h => ?_⟩
  · rw [if_pos (show a ≤ rPc r q off (35 + q) from h)] at hq ok
    exact m_p182 g1 l1 ho ok hp2 hq
  · rw [if_neg (show ¬ a ≤ rPc r q off (35 + q) from h)] at hq ok
    exact m_p182 g1 l1 ho ok hp2 hq
theorem m_p86 {ln : Nat → Nat} {σ : zS} {r pf : Nat → Int32} {n far : Int32} (g1 : gr σ 455 1 = some 456) (l1 : ln 456 = 4763) {ov : Int32} {q : Nat} (ho : ov = 0 ∧ q = 0 ∨ ov = 1 ∧ q = 1) (hN : 6 ≤ (r 0).toInt ∧ (r 0).toInt ≤ 28) {p pos off b : Int32} (ok : zOkM (zu (rP3 (rP2 (rPc (rTurned r q b) q off) q (pAbs off)) q p pos) 15 (rP3 (rP2 (rPc (rTurned r q b) q off) q (pAbs off)) q p pos 5)) q) (hp2 : p.toInt < 28) {Q : zS → Prop} (hq : Q (zms σ (rMeans (zu (rP3 (rP2 (rPc (rTurned r q b) q off) q (pAbs off)) q p pos) 15 (rP3 (rP2 (rPc (rTurned r q b) q off) q (pAbs off)) q p pos 5)) q p) pf n (fFar far (pAbs off)))) : wX12_printsAt_86 ln Q 455 pos ov p off b (zms σ r pf n far) := by
  have i21 : ((21 : Int32) + ov).toNatClampNeg = 21 + q := (oix ho 21 (by decide)).1
  have v21 : vp_in ((21 : Int32) + ov) 4763 := (oix ho 21 (by decide)).2
  have hr := nrange (r (21 + q))
  have hb := nrange b
  have e64 : ((r (21 + q)).toInt64 - b.toInt64).toInt = (r (21 + q)).toInt - b.toInt := by
    rw [Int64.toInt_sub, n64, n64]
    exact nbm64 (by omega) (by omega)
  simp only [wX12_printsAt_86, gr_zms, g1, Option.some.injEq, exists_eq_left', l1, si_zms_q, gi_zms_q, forall_eq, true_and, i21, v21]
  refine m_within g1 l1 hN (by omega) ?_
  rw [e64]
  simp only [gr_zms, g1, Option.some.injEq, exists_eq_left', l1, si_zms_q, gi_zms_q, forall_eq, true_and, i21, v21]
  unfold pAbs at hq ok
  refine ⟨fun h => ?_, fun h => ?_⟩
  · rw [if_pos h] at hq ok
    exact m_p128 g1 l1 ho ok hp2 hq
  · rw [if_neg h] at hq ok
    exact m_p128 g1 l1 ho ok hp2 hq
theorem rPos_lt {r : Nat → Int32} {q : Nat} (hN : 6 ≤ (r 0).toInt ∧ (r 0).toInt ≤ 28) (hP : 0 ≤ (r (21 + q)).toInt ∧ (r (21 + q)).toInt < 28000) : (rNear r q).toInt = ((r (21 + q)).toInt + 500) / 1000 ∧ (rOff r q).toInt = (r (21 + q)).toInt - 1000 * (((r (21 + q)).toInt + 500) / 1000) ∧ (rPos r q).toInt = (((r (21 + q)).toInt + 500) / 1000) % (r 0).toInt := by
  have t5 : (500 : Int32).toInt = 500 := rfl
  have t1 : (1000 : Int32).toInt = 1000 := rfl
  have e1 : (r (21 + q) + 500).toInt = (r (21 + q)).toInt + 500 := by rw [nadd (by rw [t5]; omega) (by rw [t5]; omega), t5]
  have e2 : (rNear r q).toInt = ((r (21 + q)).toInt + 500) / 1000 := by
    unfold rNear
    rw [ndiv (by omega) (by rw [t1]; omega), e1, t1]
  have e3 : (1000 * rNear r q).toInt = 1000 * (((r (21 + q)).toInt + 500) / 1000) := by rw [nmul (by rw [t1, e2]; omega) (by rw [t1, e2]; omega), t1, e2]
  refine ⟨e2, ?_, ?_⟩
  · unfold rOff
    rw [nsub (by rw [e3]; omega) (by rw [e3]; omega), e3]
  · unfold rPos
    rw [nrem (by rw [e2]; omega) (by omega), e2]
theorem m_printsAt {ln : Nat → Nat} {σ : zS} {r pf : Nat → Int32} {n far : Int32} (g1 : gr σ 455 1 = some 456) (l1 : ln 456 = 4763) {q : Nat} (ho : (1 : Int32) - r 6 = 0 ∧ q = 0 ∨ (1 : Int32) - r 6 = 1 ∧ q = 1) (hN : 6 ≤ (r 0).toInt ∧ (r 0).toInt ≤ 28) (hP : 0 ≤ (r (21 + q)).toInt ∧ (r (21 + q)).toInt < 28000) {pos : Int32} (ok : zOkM (zu (rPrinted r q pos) 15 (rPrinted r q pos 5)) q) {Q : zS → Prop} (hq : Q (zms σ (rPrints r q pos) pf n (fFar far (pAbs (rOff r q))))) : wX12_printsAt ln (zms σ r pf n far) 455 pos Q := by
  obtain ⟨e1, e2, e3⟩ := rPos_lt (q := q) hN hP
  have hp2 : (rPos r q).toInt < 28 := by
    have := Int.emod_lt_of_pos (((r (21 + q)).toInt + 500) / 1000) (show 0 < (r 0).toInt by omega)
    omega
  have hz : ¬ r 0 = 0 := fun e => by
    rw [neq] at e
    have : (0 : Int32).toInt = 0 := rfl
    omega
  generalize hov : (1 : Int32) - r 6 = ov at ho
  have i21 : ((21 : Int32) + ov).toNatClampNeg = 21 + q := (oix ho 21 (by decide)).1
  have v21 : vp_in ((21 : Int32) + ov) 4763 := (oix ho 21 (by decide)).2
  simp only [wX12_printsAt, wX12_receiver, gr_zms, g1, Option.some.injEq, exists_eq_left', l1, si_zms_q, gi_zms_q, forall_eq, true_and, vq0, cq0, vq2, cq2, vq6, cq6, i21, v21, hov, hz, not_false_eq_true]
  unfold rPrints rPrinted pClamp at hq
  unfold rPrinted pClamp at ok
  refine ⟨fun h => ⟨fun h2 => ?_, fun h2 => ?_⟩, fun h => ?_⟩
  · rw [if_pos (show -r 2 ≤ rOff r q from h), if_pos (show rOff r q ≤ r 2 from h2)] at hq ok
    exact m_p86 g1 l1 ho hN ok hp2 hq
  · rw [if_pos (show -r 2 ≤ rOff r q from h), if_neg (show ¬ rOff r q ≤ r 2 from h2)] at hq ok
    exact m_p86 g1 l1 ho hN ok hp2 hq
  · rw [if_neg (show ¬ -r 2 ≤ rOff r q from h)] at hq ok
    exact m_p86 g1 l1 ho hN ok hp2 hq
