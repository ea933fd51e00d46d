/-! bestPort -/
section PB4
variable {μ : mM} {A : Ab} {r k t d h q g : Nat}
def rmG (A : Ab) (g r : Nat) : Nat := min (rmK A r (dep A r)) (2 * rateK (min g (aR A r 2)) - 1)
theorem rmG_le : rmG A g r ≤ 7 := by
  have := rateK_le (min g (aR A r 2))
  unfold rmG; omega
def fpN (A : Ab) (r : Nat) : Nat := ff (fun p => inP A r p == 8) 0 (portsK (aR A r 1))
def bpB (A : Ab) (r : Nat) : Bool := decide (aR A r 0 = 1) && decide (dep A r < 4) && decide (fpN A r < portsK (aR A r 1))
def bp (A : Ab) (g : Nat) : Nat → Option (Nat × Nat × Nat)
  | 0 => none
  | r + 1 => if bpB A r = true then (match bp A g r with
    | none => some (8 * r + fpN A r, rmG A g r, dep A r)
    | some (b, rm, dp) => if rm < rmG A g r ∨ (rmG A g r = rm ∧ dep A r < dp) then some (8 * r + fpN A r, rmG A g r, dep A r) else some (b, rm, dp)) else bp A g r
def eC : Option (Nat × Nat × Nat) → Int32 × Int32 × Int32
  | none => (-nI 10, nI 0, nI 0)
  | some (b, rm, dp) => (nI b, nI rm, nI dp)
def eM : Option (Nat × Nat × Nat) → Int32 × Int32 × Int32
  | none => (-nI 10, -nI 1, nI 0)
  | some (b, rm, dp) => (nI b, nI rm, nI dp)
theorem bp_le (ht : WFt A) : ∀ n, n ≤ 8 → ∀ b rm dp, bp A g n = some (b, rm, dp) → b < 1000 ∧ rm ≤ 7 ∧ dp ≤ 4
  | 0, _, b, rm, dp, h => by cases h
  | n + 1, hn, b, rm, dp, h => by
    have hp := portsK_le (aR A n 1)
    have hg := rmG_le (A := A) (g := g) (r := n)
    unfold bp at h
    by_cases e : bpB A n = true
    · rw [if_pos e] at h
      unfold bpB at e
      simp only [Bool.and_eq_true, decide_eq_true_eq] at e
      cases e2 : bp A g n with
      | none =>
        rw [e2] at h
        simp only [Option.some.injEq, Prod.mk.injEq] at h
        omega
      | some x =>
        obtain ⟨b', rm', dp'⟩ := x
        have ih := bp_le ht n (by omega) b' rm' dp' e2
        rw [e2] at h
        simp only at h
        split at h
        · simp only [Option.some.injEq, Prod.mk.injEq] at h; omega
        · simp only [Option.some.injEq, Prod.mk.injEq] at h; omega
    · rw [if_neg e] at h
      exact bp_le ht n (by omega) b rm dp h
theorem fpN_le : fpN A r ≤ portsK (aR A r 1) := by
  unfold fpN
  rcases ff_spec (fun p => inP A r p == 8) (portsK (aR A r 1)) 0 with ⟨h1, h2, -⟩ | ⟨h1, -⟩ <;> omega
theorem j24 {f : Nat} (hC : CS μ f A) (ht : WFt A) (hr : r < 8) : s24 μ f (nI r) = some (if bpB A r = true then nI (fpN A r) else -nI 1) := by
  have hF := hC.1
  have hl := ht.le1 hr
  unfold bpB
  by_cases hp : aR A r 0 = 1
  · have hp' : (aR A r 0 == 1) = true := by simp [hp]
    have h4 := ht.dep4 hr hp
    have hk := kind_le ht hr hp
    have hpk := portsK_le (aR A r 1)
    by_cases e4 : dep A r < 4
    · obtain ⟨o, e2, h3⟩ := mLoop_find (b := s24L22 μ f (nI r) (nI (portsK (aR A r 1)))) (fun i => nI i) (portsK (aR A r 1)) (fun i => inP A r i = 8) (fun i => .inr (nI i)) (.inl ()) (fun i hi hp => by
        simp (disch := omega) only [s24L22, FabL.s0 hF, FabL.p0 hF, FabL.p1 hF, FabL.s1 hF, FabL.s2 hF, FabL.r hF, FabL.rs hF, FabL.rl hF, FabL.ls hF, FabL.l5 hF, FabL.l6 hF, FabL.l7 hF, FabL.l8 hF, FabL.q2 hF, FabL.q3 hF, FabL.q4 hF, FabL.q5 hF, FabL.tp hF, FabL.ts hF, FabL.td hF, FabL.tw hF, FabL.ws hF, FabL.w4 hF, FabL.w5 hF, FabL.w6 hF, FabL.w7 hF, FabL.w8 hF, FabL.v1 hF, FabL.v2 hF, FabL.v3 hF, FabL.v4 hF, FabL.v5 hF, j23 hC ht, Option.bind_some, Sum.elim_inl, Sum.elim_inr, reduceIte, if_true, if_false, ite_true, ite_false, not_true_eq_false, not_false_eq_true, or_true, true_or, or_false, false_or, and_true, true_and, and_false, false_and, eq_self, ne_eq, Nat.reduceAdd, Nat.reduceMul, Nat.le_refl, ite_self, Nat.reduceEqDiff, Nat.reduceLeDiff, Nat.reduceLT, L_0, L_1, L_2, L_3, L_4, L_5, L_6, L_7, L_8, L_9, L_10, L_11, L_12, L_13, L_14, L_15, L_16, L_24, L_31, L_40, L_48, L_49, L_50, L_51, L_60, L_72, L_99, L_127, L_132, L_172, L_412, L_428, L_429, L_430, L_431, L_432, L_433, L_1000, nI_add, nI_mul, nI_leI, nI_ltI, nI_eq, m_cl, mInb_iff, nI_ng, ng_nI, ng_ng, nI_lt_ng, ng_lt_nI, nI_le_ng, ng_le_nI, show ¬ portsK (aR A r 1) ≤ i by omega, hp]) (fun i hi hp => by
        have hle := inP_le (A := A) (r := r) (p := i)
        simp (disch := omega) only [s24L22, FabL.s0 hF, FabL.p0 hF, FabL.p1 hF, FabL.s1 hF, FabL.s2 hF, FabL.r hF, FabL.rs hF, FabL.rl hF, FabL.ls hF, FabL.l5 hF, FabL.l6 hF, FabL.l7 hF, FabL.l8 hF, FabL.q2 hF, FabL.q3 hF, FabL.q4 hF, FabL.q5 hF, FabL.tp hF, FabL.ts hF, FabL.td hF, FabL.tw hF, FabL.ws hF, FabL.w4 hF, FabL.w5 hF, FabL.w6 hF, FabL.w7 hF, FabL.w8 hF, FabL.v1 hF, FabL.v2 hF, FabL.v3 hF, FabL.v4 hF, FabL.v5 hF, j23 hC ht, Option.bind_some, Sum.elim_inl, Sum.elim_inr, reduceIte, if_true, if_false, ite_true, ite_false, not_true_eq_false, not_false_eq_true, or_true, true_or, or_false, false_or, and_true, true_and, and_false, false_and, eq_self, ne_eq, Nat.reduceAdd, Nat.reduceMul, Nat.le_refl, ite_self, Nat.reduceEqDiff, Nat.reduceLeDiff, Nat.reduceLT, L_0, L_1, L_2, L_3, L_4, L_5, L_6, L_7, L_8, L_9, L_10, L_11, L_12, L_13, L_14, L_15, L_16, L_24, L_31, L_40, L_48, L_49, L_50, L_51, L_60, L_72, L_99, L_127, L_132, L_172, L_412, L_428, L_429, L_430, L_431, L_432, L_433, L_1000, nI_add, nI_mul, nI_leI, nI_ltI, nI_eq, m_cl, mInb_iff, nI_ng, ng_nI, ng_ng, nI_lt_ng, ng_lt_nI, nI_le_ng, ng_le_nI, show ¬ portsK (aR A r 1) ≤ i by omega, hp]) (by
        simp (disch := omega) only [s24L22, Option.bind_some, Sum.elim_inl, Sum.elim_inr, reduceIte, if_true, if_false, ite_true, ite_false, not_true_eq_false, not_false_eq_true, or_true, true_or, or_false, false_or, and_true, true_and, and_false, false_and, eq_self, ne_eq, Nat.reduceAdd, Nat.reduceMul, Nat.le_refl, ite_self, Nat.reduceEqDiff, Nat.reduceLeDiff, Nat.reduceLT, L_0, L_1, L_2, L_3, L_4, L_5, L_6, L_7, L_8, L_9, L_10, L_11, L_12, L_13, L_14, L_15, L_16, L_24, L_31, L_40, L_48, L_49, L_50, L_51, L_60, L_72, L_99, L_127, L_132, L_172, L_412, L_428, L_429, L_430, L_431, L_432, L_433, L_1000, nI_add, nI_mul, nI_leI, nI_ltI, nI_eq, m_cl, mInb_iff, nI_ng, ng_nI, ng_ng, nI_lt_ng, ng_lt_nI, nI_le_ng, ng_le_nI]) (n := 1000) (by omega)
      have e2' : mLoop (s24L22 μ f (nI r) (nI (portsK (aR A r 1)))) 1000 (nI 0) = some o := e2
      simp (disch := omega) only [s24_11, s24, FabL.s0 hF, FabL.p0 hF, FabL.p1 hF, FabL.s1 hF, FabL.s2 hF, FabL.r hF, FabL.rs hF, FabL.rl hF, FabL.ls hF, FabL.l5 hF, FabL.l6 hF, FabL.l7 hF, FabL.l8 hF, FabL.q2 hF, FabL.q3 hF, FabL.q4 hF, FabL.q5 hF, FabL.tp hF, FabL.ts hF, FabL.td hF, FabL.tw hF, FabL.ws hF, FabL.w4 hF, FabL.w5 hF, FabL.w6 hF, FabL.w7 hF, FabL.w8 hF, FabL.v1 hF, FabL.v2 hF, FabL.v3 hF, FabL.v4 hF, FabL.v5 hF, j14 hC, j133, RepC.r1 hC.2, RepC.r5 hC.2, Option.bind_some, Sum.elim_inl, Sum.elim_inr, reduceIte, if_true, if_false, ite_true, ite_false, not_true_eq_false, not_false_eq_true, or_true, true_or, or_false, false_or, and_true, true_and, and_false, false_and, eq_self, ne_eq, Nat.reduceAdd, Nat.reduceMul, Nat.le_refl, ite_self, Nat.reduceEqDiff, Nat.reduceLeDiff, Nat.reduceLT, L_0, L_1, L_2, L_3, L_4, L_5, L_6, L_7, L_8, L_9, L_10, L_11, L_12, L_13, L_14, L_15, L_16, L_24, L_31, L_40, L_48, L_49, L_50, L_51, L_60, L_72, L_99, L_127, L_132, L_172, L_412, L_428, L_429, L_430, L_431, L_432, L_433, L_1000, nI_add, nI_mul, nI_leI, nI_ltI, nI_eq, m_cl, mInb_iff, nI_ng, ng_nI, ng_ng, nI_lt_ng, ng_lt_nI, nI_le_ng, ng_le_nI, hp', bI_0, Bool.true_eq_false, e4, e2', hr]
      rcases h3 with ⟨i, hi, q1, q2, rfl⟩ | ⟨q1, rfl⟩
      · have : fpN A r = i := ff_some (by simp [q1]) (by omega) (by omega) (fun j a b => by simpa using q2 j b)
        simp [this, hp, hi]
      · have : fpN A r = 0 + portsK (aR A r 1) := ff_none (fun j a b => by simpa using q1 j (by omega))
        simp [this, hp]
    · simp (disch := omega) only [s24_11, s24, FabL.s0 hF, FabL.p0 hF, FabL.p1 hF, FabL.s1 hF, FabL.s2 hF, FabL.r hF, FabL.rs hF, FabL.rl hF, FabL.ls hF, FabL.l5 hF, FabL.l6 hF, FabL.l7 hF, FabL.l8 hF, FabL.q2 hF, FabL.q3 hF, FabL.q4 hF, FabL.q5 hF, FabL.tp hF, FabL.ts hF, FabL.td hF, FabL.tw hF, FabL.ws hF, FabL.w4 hF, FabL.w5 hF, FabL.w6 hF, FabL.w7 hF, FabL.w8 hF, FabL.v1 hF, FabL.v2 hF, FabL.v3 hF, FabL.v4 hF, FabL.v5 hF, j14 hC, RepC.r5 hC.2, Option.bind_some, Sum.elim_inl, Sum.elim_inr, reduceIte, if_true, if_false, ite_true, ite_false, not_true_eq_false, not_false_eq_true, or_true, true_or, or_false, false_or, and_true, true_and, and_false, false_and, eq_self, ne_eq, Nat.reduceAdd, Nat.reduceMul, Nat.le_refl, ite_self, Nat.reduceEqDiff, Nat.reduceLeDiff, Nat.reduceLT, L_0, L_1, L_2, L_3, L_4, L_5, L_6, L_7, L_8, L_9, L_10, L_11, L_12, L_13, L_14, L_15, L_16, L_24, L_31, L_40, L_48, L_49, L_50, L_51, L_60, L_72, L_99, L_127, L_132, L_172, L_412, L_428, L_429, L_430, L_431, L_432, L_433, L_1000, nI_add, nI_mul, nI_leI, nI_ltI, nI_eq, m_cl, mInb_iff, nI_ng, ng_nI, ng_ng, nI_lt_ng, ng_lt_nI, nI_le_ng, ng_le_nI, hp', bI_0, Bool.true_eq_false, e4, hr]
      simp
  · have hp' : (aR A r 0 == 1) = false := by simp [hp]
    simp (disch := omega) only [s24_11, s24, FabL.s0 hF, FabL.p0 hF, FabL.p1 hF, FabL.s1 hF, FabL.s2 hF, FabL.r hF, FabL.rs hF, FabL.rl hF, FabL.ls hF, FabL.l5 hF, FabL.l6 hF, FabL.l7 hF, FabL.l8 hF, FabL.q2 hF, FabL.q3 hF, FabL.q4 hF, FabL.q5 hF, FabL.tp hF, FabL.ts hF, FabL.td hF, FabL.tw hF, FabL.ws hF, FabL.w4 hF, FabL.w5 hF, FabL.w6 hF, FabL.w7 hF, FabL.w8 hF, FabL.v1 hF, FabL.v2 hF, FabL.v3 hF, FabL.v4 hF, FabL.v5 hF, j14 hC, Option.bind_some, Sum.elim_inl, Sum.elim_inr, reduceIte, if_true, if_false, ite_true, ite_false, not_true_eq_false, not_false_eq_true, or_true, true_or, or_false, false_or, and_true, true_and, and_false, false_and, eq_self, ne_eq, Nat.reduceAdd, Nat.reduceMul, Nat.le_refl, ite_self, Nat.reduceEqDiff, Nat.reduceLeDiff, Nat.reduceLT, L_0, L_1, L_2, L_3, L_4, L_5, L_6, L_7, L_8, L_9, L_10, L_11, L_12, L_13, L_14, L_15, L_16, L_24, L_31, L_40, L_48, L_49, L_50, L_51, L_60, L_72, L_99, L_127, L_132, L_172, L_412, L_428, L_429, L_430, L_431, L_432, L_433, L_1000, nI_add, nI_mul, nI_leI, nI_ltI, nI_eq, m_cl, mInb_iff, nI_ng, ng_nI, ng_ng, nI_lt_ng, ng_lt_nI, nI_le_ng, ng_le_nI, hp', bI_0]
    simp [hp]
theorem j32 {f : Nat} (hC : CS μ f A) (ht : WFt A) (hu : WFu A) (hr : r < 8) (hp : aR A r 0 = 1) (hg : g ≤ 3) : s32 μ f (nI r) (nI g) = some (nI (rmG A g r)) := by
  have hF := hC.1
  have g2 := gen_le ht hr hp
  have hm := rmK_le (A := A) (d := r) (dep A r)
  have hra := rateK_le (min g (aR A r 2))
  simp (disch := omega) only [s32, FabL.s0 hF, FabL.p0 hF, FabL.p1 hF, FabL.s1 hF, FabL.s2 hF, FabL.r hF, FabL.rs hF, FabL.rl hF, FabL.ls hF, FabL.l5 hF, FabL.l6 hF, FabL.l7 hF, FabL.l8 hF, FabL.q2 hF, FabL.q3 hF, FabL.q4 hF, FabL.q5 hF, FabL.tp hF, FabL.ts hF, FabL.td hF, FabL.tw hF, FabL.ws hF, FabL.w4 hF, FabL.w5 hF, FabL.w6 hF, FabL.w7 hF, FabL.w8 hF, FabL.v1 hF, FabL.v2 hF, FabL.v3 hF, FabL.v4 hF, FabL.v5 hF, j31 hC ht hu, j18 hF, RepC.r2 hC.2, mMin_nI, j137, Option.bind_some, Sum.elim_inl, Sum.elim_inr, reduceIte, if_true, if_false, ite_true, ite_false, not_true_eq_false, not_false_eq_true, or_true, true_or, or_false, false_or, and_true, true_and, and_false, false_and, eq_self, ne_eq, Nat.reduceAdd, Nat.reduceMul, Nat.le_refl, ite_self, Nat.reduceEqDiff, Nat.reduceLeDiff, Nat.reduceLT, L_0, L_1, L_2, L_3, L_4, L_5, L_6, L_7, L_8, L_9, L_10, L_11, L_12, L_13, L_14, L_15, L_16, L_24, L_31, L_40, L_48, L_49, L_50, L_51, L_60, L_72, L_99, L_127, L_132, L_172, L_412, L_428, L_429, L_430, L_431, L_432, L_433, L_1000, nI_add, nI_mul, nI_leI, nI_ltI, nI_eq, m_cl, mInb_iff, nI_ng, ng_nI, ng_ng, nI_lt_ng, ng_lt_nI, nI_le_ng, ng_le_nI]
  unfold rmG
  congr 2; omega
theorem bestC (hC : CS μ 11 A) (hK : ClsL (mS μ) (mP μ)) (ht : WFt A) (hu : WFu A) (hg : g ≤ 3) : mLoop (s121L15 μ 2 (nI g)) 1000 (-nI 10, nI 0, nI 0, nI 0) = some (.inl (eC (bp A g 8)).1) := by
  have hF := hC.1
  refine mLoop_seq0 (b := s121L15 μ 2 (nI g)) (fun i => ((eC (bp A g i)).1, (eC (bp A g i)).2.1, (eC (bp A g i)).2.2, nI i)) 8 (fun i hi => ?_) ?_ (n := 1000) (by omega)
  · have hj := j24 hC ht (r := i) (by omega)
    by_cases e : bpB A i = true
    · have e' := e
      unfold bpB at e'
      simp only [Bool.and_eq_true, decide_eq_true_eq] at e'
      obtain ⟨⟨e1, e2⟩, e3⟩ := e'
      have hpk := portsK_le (aR A i 1)
      have hj2 := j32 hC ht hu (r := i) (by omega) e1 hg
      have hrm := rmG_le (A := A) (g := g) (r := i)
      cases eb : bp A g i with
      | none =>
        have en : bp A g (i + 1) = some (8 * i + fpN A i, rmG A g i, dep A i) := by
          show (if bpB A i = true then _ else _) = _
          rw [if_pos e, eb]
        rw [en]
        simp (disch := omega) only [s121L15_62, s121L15_52, s121L15, s121, ClsL.s hK, ClsL.p0 hK, ClsL.p1 hK, ClsL.p2 hK, ClsL.p3 hK, ClsL.p4 hK, ClsL.p5 hK, ClsL.s192 hK, ClsL.s199 hK, FabL.s0 hF, FabL.p0 hF, FabL.p1 hF, FabL.s1 hF, FabL.s2 hF, FabL.r hF, FabL.rs hF, FabL.rl hF, FabL.ls hF, FabL.l5 hF, FabL.l6 hF, FabL.l7 hF, FabL.l8 hF, FabL.q2 hF, FabL.q3 hF, FabL.q4 hF, FabL.q5 hF, FabL.tp hF, FabL.ts hF, FabL.td hF, FabL.tw hF, FabL.ws hF, FabL.w4 hF, FabL.w5 hF, FabL.w6 hF, FabL.w7 hF, FabL.w8 hF, FabL.v1 hF, FabL.v2 hF, FabL.v3 hF, FabL.v4 hF, FabL.v5 hF, eC, hj, hj2, RepC.r5 hC.2, Option.bind_some, Sum.elim_inl, Sum.elim_inr, reduceIte, if_true, if_false, ite_true, ite_false, not_true_eq_false, not_false_eq_true, or_true, true_or, or_false, false_or, and_true, true_and, and_false, false_and, eq_self, ne_eq, Nat.reduceAdd, Nat.reduceMul, Nat.le_refl, ite_self, Nat.reduceEqDiff, Nat.reduceLeDiff, Nat.reduceLT, L_0, L_1, L_2, L_3, L_4, L_5, L_6, L_7, L_8, L_9, L_10, L_11, L_12, L_13, L_14, L_15, L_16, L_24, L_31, L_40, L_48, L_49, L_50, L_51, L_60, L_72, L_99, L_127, L_132, L_172, L_412, L_428, L_429, L_430, L_431, L_432, L_433, L_1000, nI_add, nI_mul, nI_leI, nI_ltI, nI_eq, m_cl, mInb_iff, nI_ng, ng_nI, ng_ng, nI_lt_ng, ng_lt_nI, nI_le_ng, ng_le_nI, e, show ¬ 8 ≤ i by omega, show i < 8 by omega]
      | some x =>
        obtain ⟨b, rm, dp⟩ := x
        obtain ⟨l1, l2, l3⟩ := bp_le ht i (by omega) b rm dp eb
        have en : bp A g (i + 1) = (if rm < rmG A g i ∨ (rmG A g i = rm ∧ dep A i < dp) then some (8 * i + fpN A i, rmG A g i, dep A i) else some (b, rm, dp)) := by
          show (if bpB A i = true then _ else _) = _
          rw [if_pos e, eb]
        rw [en]
        simp (disch := omega) only [s121L15_62, s121L15_52, s121L15, s121, ClsL.s hK, ClsL.p0 hK, ClsL.p1 hK, ClsL.p2 hK, ClsL.p3 hK, ClsL.p4 hK, ClsL.p5 hK, ClsL.s192 hK, ClsL.s199 hK, FabL.s0 hF, FabL.p0 hF, FabL.p1 hF, FabL.s1 hF, FabL.s2 hF, FabL.r hF, FabL.rs hF, FabL.rl hF, FabL.ls hF, FabL.l5 hF, FabL.l6 hF, FabL.l7 hF, FabL.l8 hF, FabL.q2 hF, FabL.q3 hF, FabL.q4 hF, FabL.q5 hF, FabL.tp hF, FabL.ts hF, FabL.td hF, FabL.tw hF, FabL.ws hF, FabL.w4 hF, FabL.w5 hF, FabL.w6 hF, FabL.w7 hF, FabL.w8 hF, FabL.v1 hF, FabL.v2 hF, FabL.v3 hF, FabL.v4 hF, FabL.v5 hF, eC, hj, hj2, RepC.r5 hC.2, Option.bind_some, Sum.elim_inl, Sum.elim_inr, reduceIte, if_true, if_false, ite_true, ite_false, not_true_eq_false, not_false_eq_true, or_true, true_or, or_false, false_or, and_true, true_and, and_false, false_and, eq_self, ne_eq, Nat.reduceAdd, Nat.reduceMul, Nat.le_refl, ite_self, Nat.reduceEqDiff, Nat.reduceLeDiff, Nat.reduceLT, L_0, L_1, L_2, L_3, L_4, L_5, L_6, L_7, L_8, L_9, L_10, L_11, L_12, L_13, L_14, L_15, L_16, L_24, L_31, L_40, L_48, L_49, L_50, L_51, L_60, L_72, L_99, L_127, L_132, L_172, L_412, L_428, L_429, L_430, L_431, L_432, L_433, L_1000, nI_add, nI_mul, nI_leI, nI_ltI, nI_eq, m_cl, mInb_iff, nI_ng, ng_nI, ng_ng, nI_lt_ng, ng_lt_nI, nI_le_ng, ng_le_nI, e, show ¬ 8 ≤ i by omega, show i < 8 by omega]
        by_cases c1 : rm < rmG A g i
        · rw [if_pos c1, if_pos (Or.inl c1)]
        · rw [if_neg c1]
          by_cases c2 : rmG A g i = rm
          · rw [if_neg (fun z => z c2)]
            by_cases c3 : dp ≤ dep A i
            · rw [if_pos c3, if_neg (by omega)]
            · rw [if_neg c3, if_pos (Or.inr ⟨c2, by omega⟩)]
          · rw [if_pos c2, if_neg (by omega)]
    · have en : bp A g (i + 1) = bp A g i := by
        show (if bpB A i = true then _ else _) = _
        rw [if_neg e]
      have e' : bpB A i = false := by simpa using e
      rw [en]
      simp (disch := omega) only [s121L15_62, s121L15_52, s121L15, s121, ClsL.s hK, ClsL.p0 hK, ClsL.p1 hK, ClsL.p2 hK, ClsL.p3 hK, ClsL.p4 hK, ClsL.p5 hK, ClsL.s192 hK, ClsL.s199 hK, FabL.s0 hF, FabL.p0 hF, FabL.p1 hF, FabL.s1 hF, FabL.s2 hF, FabL.r hF, FabL.rs hF, FabL.rl hF, FabL.ls hF, FabL.l5 hF, FabL.l6 hF, FabL.l7 hF, FabL.l8 hF, FabL.q2 hF, FabL.q3 hF, FabL.q4 hF, FabL.q5 hF, FabL.tp hF, FabL.ts hF, FabL.td hF, FabL.tw hF, FabL.ws hF, FabL.w4 hF, FabL.w5 hF, FabL.w6 hF, FabL.w7 hF, FabL.w8 hF, FabL.v1 hF, FabL.v2 hF, FabL.v3 hF, FabL.v4 hF, FabL.v5 hF, hj, Option.bind_some, Sum.elim_inl, Sum.elim_inr, reduceIte, if_true, if_false, ite_true, ite_false, not_true_eq_false, not_false_eq_true, or_true, true_or, or_false, false_or, and_true, true_and, and_false, false_and, eq_self, ne_eq, Nat.reduceAdd, Nat.reduceMul, Nat.le_refl, ite_self, Nat.reduceEqDiff, Nat.reduceLeDiff, Nat.reduceLT, L_0, L_1, L_2, L_3, L_4, L_5, L_6, L_7, L_8, L_9, L_10, L_11, L_12, L_13, L_14, L_15, L_16, L_24, L_31, L_40, L_48, L_49, L_50, L_51, L_60, L_72, L_99, L_127, L_132, L_172, L_412, L_428, L_429, L_430, L_431, L_432, L_433, L_1000, nI_add, nI_mul, nI_leI, nI_ltI, nI_eq, m_cl, mInb_iff, nI_ng, ng_nI, ng_ng, nI_lt_ng, ng_lt_nI, nI_le_ng, ng_le_nI, e', show ¬ 8 ≤ i by omega, Bool.false_eq_true]
  · simp (disch := omega) only [s121L15, Option.bind_some, Sum.elim_inl, Sum.elim_inr, reduceIte, if_true, if_false, ite_true, ite_false, not_true_eq_false, not_false_eq_true, or_true, true_or, or_false, false_or, and_true, true_and, and_false, false_and, eq_self, ne_eq, Nat.reduceAdd, Nat.reduceMul, Nat.le_refl, ite_self, Nat.reduceEqDiff, Nat.reduceLeDiff, Nat.reduceLT, L_0, L_1, L_2, L_3, L_4, L_5, L_6, L_7, L_8, L_9, L_10, L_11, L_12, L_13, L_14, L_15, L_16, L_24, L_31, L_40, L_48, L_49, L_50, L_51, L_60, L_72, L_99, L_127, L_132, L_172, L_412, L_428, L_429, L_430, L_431, L_432, L_433, L_1000, nI_add, nI_mul, nI_leI, nI_ltI, nI_eq, m_cl, mInb_iff, nI_ng, ng_nI, ng_ng, nI_lt_ng, ng_lt_nI, nI_le_ng, ng_le_nI]
/-- the reference's ports of one router -/
theorem portM (hM : RS μ A) (ht : WFt A) (hu : WFu A) (hr : r < 8) (hp : aR A r 0 = 1) (hg : g ≤ 3) (b0 m0 p0 : Int32) : mLoop (s229L15L39 μ 200 (nI g) (nI r) (nI (portsK (aR A r 1)))) 1000 (b0, m0, p0, nI 0) = some (.inl (if fpN A r < portsK (aR A r 1) ∧ (m0 < nI (rmG A g r) ∨ (nI (rmG A g r) = m0 ∧ ¬ p0 ≤ nI (dep A r))) then (nI (8 * r + fpN A r), nI (rmG A g r), nI (dep A r)) else (b0, m0, p0))) := by
  have hR := hM.1
  have g2 := gen_le ht hr hp
  have h4 := ht.dep4 hr hp
  have hm := rmK_le (A := A) (d := r) (dep A r)
  have hra := rateK_le (min g (aR A r 2))
  have hpk := portsK_le (aR A r 1)
  have hgl := rmG_le (A := A) (g := g) (r := r)
  have hin : ∀ p, inP A r p ≤ 8 := fun p => (inP_le (A := A) (r := r) (p := p)).2
  have erm : min (rmK A r (dep A r)) (2 * rateK (min g (aR A r 2)) - 1) = rmG A g r := rfl
  have step : ∀ (b1 m1 p1 : Int32) i, i < portsK (aR A r 1) → s229L15L39 μ 200 (nI g) (nI r) (nI (portsK (aR A r 1))) (b1, m1, p1, nI i) = some (.inl (if inP A r i = 8 ∧ (m1 < nI (rmG A g r) ∨ (nI (rmG A g r) = m1 ∧ ¬ p1 ≤ nI (dep A r))) then (nI (8 * r + i), nI (rmG A g r), nI (dep A r), nI (i + 1)) else (b1, m1, p1, nI (i + 1)))) := by
    intro b1 m1 p1 i hi
    have hini := hin i
    by_cases c0 : inP A r i = 8
    · by_cases c1 : m1 < nI (rmG A g r)
      · simp (disch := omega) only [s229L15L39, s229L15L39_71, s229L15L39_73, s229L15L39_74, s229L15L39_95, RefL.s hR, RefL.r0 hR, RefL.r1 hR, RefL.r2 hR, RefL.r3 hR, RefL.r4 hR, RefL.r5 hR, RefL.r7 hR, RefL.r8 hR, RefL.r9 hR, RefL.r10 hR, RefL.r12 hR, RefL.r13 hR, RefL.r14 hR, RefL.r15 hR, RefL.r16 hR, RefL.r17 hR, RefL.r18 hR, RefL.r19 hR, RefL.a0 hR, RefL.a1 hR, RefL.a2 hR, RefL.a3 hR, RefL.a4 hR, RefL.a5 hR, RefL.a7 hR, RefL.a8 hR, RefL.a9 hR, RefL.a10 hR, RefL.a12 hR, RefL.a13 hR, RefL.a14 hR, RefL.a15 hR, RefL.a16 hR, RefL.a17 hR, RefL.a18 hR, RefL.a19 hR, k148 hM, k145, k155, k169 hM ht hu, k152 hM ht, k182 hM ht, nI_sub, erm, Option.bind_some, Sum.elim_inl, Sum.elim_inr, reduceIte, if_true, if_false, ite_true, ite_false, not_true_eq_false, not_false_eq_true, or_true, true_or, or_false, false_or, and_true, true_and, and_false, false_and, eq_self, ne_eq, Nat.reduceAdd, Nat.reduceMul, Nat.le_refl, ite_self, Nat.reduceEqDiff, Nat.reduceLeDiff, Nat.reduceLT, L_0, L_1, L_2, L_3, L_4, L_5, L_6, L_7, L_8, L_9, L_10, L_11, L_12, L_13, L_14, L_15, L_16, L_24, L_31, L_40, L_48, L_49, L_50, L_51, L_60, L_72, L_99, L_127, L_132, L_172, L_412, L_428, L_429, L_430, L_431, L_432, L_433, L_1000, nI_add, nI_mul, nI_leI, nI_ltI, nI_eq, m_cl, mInb_iff, nI_ng, ng_nI, ng_ng, nI_lt_ng, ng_lt_nI, nI_le_ng, ng_le_nI, show ¬ portsK (aR A r 1) ≤ i by omega, c0, c1]
      · by_cases c2 : nI (rmG A g r) = m1
        · by_cases c3 : p1 ≤ nI (dep A r)
          · simp (disch := omega) only [s229L15L39, s229L15L39_71, s229L15L39_73, s229L15L39_74, s229L15L39_95, RefL.s hR, RefL.r0 hR, RefL.r1 hR, RefL.r2 hR, RefL.r3 hR, RefL.r4 hR, RefL.r5 hR, RefL.r7 hR, RefL.r8 hR, RefL.r9 hR, RefL.r10 hR, RefL.r12 hR, RefL.r13 hR, RefL.r14 hR, RefL.r15 hR, RefL.r16 hR, RefL.r17 hR, RefL.r18 hR, RefL.r19 hR, RefL.a0 hR, RefL.a1 hR, RefL.a2 hR, RefL.a3 hR, RefL.a4 hR, RefL.a5 hR, RefL.a7 hR, RefL.a8 hR, RefL.a9 hR, RefL.a10 hR, RefL.a12 hR, RefL.a13 hR, RefL.a14 hR, RefL.a15 hR, RefL.a16 hR, RefL.a17 hR, RefL.a18 hR, RefL.a19 hR, k148 hM, k145, k155, k169 hM ht hu, k152 hM ht, k182 hM ht, nI_sub, erm, Option.bind_some, Sum.elim_inl, Sum.elim_inr, reduceIte, if_true, if_false, ite_true, ite_false, not_true_eq_false, not_false_eq_true, or_true, true_or, or_false, false_or, and_true, true_and, and_false, false_and, eq_self, ne_eq, Nat.reduceAdd, Nat.reduceMul, Nat.le_refl, ite_self, Nat.reduceEqDiff, Nat.reduceLeDiff, Nat.reduceLT, L_0, L_1, L_2, L_3, L_4, L_5, L_6, L_7, L_8, L_9, L_10, L_11, L_12, L_13, L_14, L_15, L_16, L_24, L_31, L_40, L_48, L_49, L_50, L_51, L_60, L_72, L_99, L_127, L_132, L_172, L_412, L_428, L_429, L_430, L_431, L_432, L_433, L_1000, nI_add, nI_mul, nI_leI, nI_ltI, nI_eq, m_cl, mInb_iff, nI_ng, ng_nI, ng_ng, nI_lt_ng, ng_lt_nI, nI_le_ng, ng_le_nI, show ¬ portsK (aR A r 1) ≤ i by omega, c0, c1, c2, c3]
            have c1' : ¬ m1 < m1 := by rw [← c2]; rw [← c2] at c1; exact c1
            simp [c1']
          · simp (disch := omega) only [s229L15L39, s229L15L39_71, s229L15L39_73, s229L15L39_74, s229L15L39_95, RefL.s hR, RefL.r0 hR, RefL.r1 hR, RefL.r2 hR, RefL.r3 hR, RefL.r4 hR, RefL.r5 hR, RefL.r7 hR, RefL.r8 hR, RefL.r9 hR, RefL.r10 hR, RefL.r12 hR, RefL.r13 hR, RefL.r14 hR, RefL.r15 hR, RefL.r16 hR, RefL.r17 hR, RefL.r18 hR, RefL.r19 hR, RefL.a0 hR, RefL.a1 hR, RefL.a2 hR, RefL.a3 hR, RefL.a4 hR, RefL.a5 hR, RefL.a7 hR, RefL.a8 hR, RefL.a9 hR, RefL.a10 hR, RefL.a12 hR, RefL.a13 hR, RefL.a14 hR, RefL.a15 hR, RefL.a16 hR, RefL.a17 hR, RefL.a18 hR, RefL.a19 hR, k148 hM, k145, k155, k169 hM ht hu, k152 hM ht, k182 hM ht, nI_sub, erm, Option.bind_some, Sum.elim_inl, Sum.elim_inr, reduceIte, if_true, if_false, ite_true, ite_false, not_true_eq_false, not_false_eq_true, or_true, true_or, or_false, false_or, and_true, true_and, and_false, false_and, eq_self, ne_eq, Nat.reduceAdd, Nat.reduceMul, Nat.le_refl, ite_self, Nat.reduceEqDiff, Nat.reduceLeDiff, Nat.reduceLT, L_0, L_1, L_2, L_3, L_4, L_5, L_6, L_7, L_8, L_9, L_10, L_11, L_12, L_13, L_14, L_15, L_16, L_24, L_31, L_40, L_48, L_49, L_50, L_51, L_60, L_72, L_99, L_127, L_132, L_172, L_412, L_428, L_429, L_430, L_431, L_432, L_433, L_1000, nI_add, nI_mul, nI_leI, nI_ltI, nI_eq, m_cl, mInb_iff, nI_ng, ng_nI, ng_ng, nI_lt_ng, ng_lt_nI, nI_le_ng, ng_le_nI, show ¬ portsK (aR A r 1) ≤ i by omega, c0, c1, c2, c3]
        · simp (disch := omega) only [s229L15L39, s229L15L39_71, s229L15L39_73, s229L15L39_74, s229L15L39_95, RefL.s hR, RefL.r0 hR, RefL.r1 hR, RefL.r2 hR, RefL.r3 hR, RefL.r4 hR, RefL.r5 hR, RefL.r7 hR, RefL.r8 hR, RefL.r9 hR, RefL.r10 hR, RefL.r12 hR, RefL.r13 hR, RefL.r14 hR, RefL.r15 hR, RefL.r16 hR, RefL.r17 hR, RefL.r18 hR, RefL.r19 hR, RefL.a0 hR, RefL.a1 hR, RefL.a2 hR, RefL.a3 hR, RefL.a4 hR, RefL.a5 hR, RefL.a7 hR, RefL.a8 hR, RefL.a9 hR, RefL.a10 hR, RefL.a12 hR, RefL.a13 hR, RefL.a14 hR, RefL.a15 hR, RefL.a16 hR, RefL.a17 hR, RefL.a18 hR, RefL.a19 hR, k148 hM, k145, k155, k169 hM ht hu, k152 hM ht, k182 hM ht, nI_sub, erm, Option.bind_some, Sum.elim_inl, Sum.elim_inr, reduceIte, if_true, if_false, ite_true, ite_false, not_true_eq_false, not_false_eq_true, or_true, true_or, or_false, false_or, and_true, true_and, and_false, false_and, eq_self, ne_eq, Nat.reduceAdd, Nat.reduceMul, Nat.le_refl, ite_self, Nat.reduceEqDiff, Nat.reduceLeDiff, Nat.reduceLT, L_0, L_1, L_2, L_3, L_4, L_5, L_6, L_7, L_8, L_9, L_10, L_11, L_12, L_13, L_14, L_15, L_16, L_24, L_31, L_40, L_48, L_49, L_50, L_51, L_60, L_72, L_99, L_127, L_132, L_172, L_412, L_428, L_429, L_430, L_431, L_432, L_433, L_1000, nI_add, nI_mul, nI_leI, nI_ltI, nI_eq, m_cl, mInb_iff, nI_ng, ng_nI, ng_ng, nI_lt_ng, ng_lt_nI, nI_le_ng, ng_le_nI, show ¬ portsK (aR A r 1) ≤ i by omega, c0, c1, c2]
    · have c0' : ∀ x, s229L15L39_74 μ 200 (nI g) (nI r) (nI (portsK (aR A r 1))) b1 m1 p1 (nI i) (nI (rmG A g r)) x = some (.inl (b1, m1, p1, nI (i + 1))) := by
        intro x
        simp (disch := omega) only [s229L15L39_74, s229L15L39_95, RefL.s hR, RefL.r0 hR, RefL.r1 hR, RefL.r2 hR, RefL.r3 hR, RefL.r4 hR, RefL.r5 hR, RefL.r7 hR, RefL.r8 hR, RefL.r9 hR, RefL.r10 hR, RefL.r12 hR, RefL.r13 hR, RefL.r14 hR, RefL.r15 hR, RefL.r16 hR, RefL.r17 hR, RefL.r18 hR, RefL.r19 hR, RefL.a0 hR, RefL.a1 hR, RefL.a2 hR, RefL.a3 hR, RefL.a4 hR, RefL.a5 hR, RefL.a7 hR, RefL.a8 hR, RefL.a9 hR, RefL.a10 hR, RefL.a12 hR, RefL.a13 hR, RefL.a14 hR, RefL.a15 hR, RefL.a16 hR, RefL.a17 hR, RefL.a18 hR, RefL.a19 hR, k182 hM ht, Option.bind_some, Sum.elim_inl, Sum.elim_inr, reduceIte, if_true, if_false, ite_true, ite_false, not_true_eq_false, not_false_eq_true, or_true, true_or, or_false, false_or, and_true, true_and, and_false, false_and, eq_self, ne_eq, Nat.reduceAdd, Nat.reduceMul, Nat.le_refl, ite_self, Nat.reduceEqDiff, Nat.reduceLeDiff, Nat.reduceLT, L_0, L_1, L_2, L_3, L_4, L_5, L_6, L_7, L_8, L_9, L_10, L_11, L_12, L_13, L_14, L_15, L_16, L_24, L_31, L_40, L_48, L_49, L_50, L_51, L_60, L_72, L_99, L_127, L_132, L_172, L_412, L_428, L_429, L_430, L_431, L_432, L_433, L_1000, nI_add, nI_mul, nI_leI, nI_ltI, nI_eq, m_cl, mInb_iff, nI_ng, ng_nI, ng_ng, nI_lt_ng, ng_lt_nI, nI_le_ng, ng_le_nI, c0]
      simp (disch := omega) only [s229L15L39, s229L15L39_71, s229L15L39_73, c0', RefL.s hR, RefL.r0 hR, RefL.r1 hR, RefL.r2 hR, RefL.r3 hR, RefL.r4 hR, RefL.r5 hR, RefL.r7 hR, RefL.r8 hR, RefL.r9 hR, RefL.r10 hR, RefL.r12 hR, RefL.r13 hR, RefL.r14 hR, RefL.r15 hR, RefL.r16 hR, RefL.r17 hR, RefL.r18 hR, RefL.r19 hR, RefL.a0 hR, RefL.a1 hR, RefL.a2 hR, RefL.a3 hR, RefL.a4 hR, RefL.a5 hR, RefL.a7 hR, RefL.a8 hR, RefL.a9 hR, RefL.a10 hR, RefL.a12 hR, RefL.a13 hR, RefL.a14 hR, RefL.a15 hR, RefL.a16 hR, RefL.a17 hR, RefL.a18 hR, RefL.a19 hR, k148 hM, k145, k155, k169 hM ht hu, k152 hM ht, nI_sub, erm, Option.bind_some, Sum.elim_inl, Sum.elim_inr, reduceIte, if_true, if_false, ite_true, ite_false, not_true_eq_false, not_false_eq_true, or_true, true_or, or_false, false_or, and_true, true_and, and_false, false_and, eq_self, ne_eq, Nat.reduceAdd, Nat.reduceMul, Nat.le_refl, ite_self, Nat.reduceEqDiff, Nat.reduceLeDiff, Nat.reduceLT, L_0, L_1, L_2, L_3, L_4, L_5, L_6, L_7, L_8, L_9, L_10, L_11, L_12, L_13, L_14, L_15, L_16, L_24, L_31, L_40, L_48, L_49, L_50, L_51, L_60, L_72, L_99, L_127, L_132, L_172, L_412, L_428, L_429, L_430, L_431, L_432, L_433, L_1000, nI_add, nI_mul, nI_leI, nI_ltI, nI_eq, m_cl, mInb_iff, nI_ng, ng_nI, ng_ng, nI_lt_ng, ng_lt_nI, nI_le_ng, ng_le_nI, show ¬ portsK (aR A r 1) ≤ i by omega, c0]
  have fin : ∀ (b1 m1 p1 : Int32), s229L15L39 μ 200 (nI g) (nI r) (nI (portsK (aR A r 1))) (b1, m1, p1, nI (portsK (aR A r 1))) = some (.inr (.inl (b1, m1, p1))) := by
    intro b1 m1 p1
    simp (disch := omega) only [s229L15L39, Option.bind_some, Sum.elim_inl, Sum.elim_inr, reduceIte, if_true, if_false, ite_true, ite_false, not_true_eq_false, not_false_eq_true, or_true, true_or, or_false, false_or, and_true, true_and, and_false, false_and, eq_self, ne_eq, Nat.reduceAdd, Nat.reduceMul, Nat.le_refl, ite_self, Nat.reduceEqDiff, Nat.reduceLeDiff, Nat.reduceLT, L_0, L_1, L_2, L_3, L_4, L_5, L_6, L_7, L_8, L_9, L_10, L_11, L_12, L_13, L_14, L_15, L_16, L_24, L_31, L_40, L_48, L_49, L_50, L_51, L_60, L_72, L_99, L_127, L_132, L_172, L_412, L_428, L_429, L_430, L_431, L_432, L_433, L_1000, nI_add, nI_mul, nI_leI, nI_ltI, nI_eq, m_cl, mInb_iff, nI_ng, ng_nI, ng_ng, nI_lt_ng, ng_lt_nI, nI_le_ng, ng_le_nI]
  have nb : ¬ (nI (rmG A g r) < nI (rmG A g r) ∨ (nI (rmG A g r) = nI (rmG A g r) ∧ ¬ nI (dep A r) ≤ nI (dep A r))) := by
    simp (disch := omega) only [Option.bind_some, Sum.elim_inl, Sum.elim_inr, reduceIte, if_true, if_false, ite_true, ite_false, not_true_eq_false, not_false_eq_true, or_true, true_or, or_false, false_or, and_true, true_and, and_false, false_and, eq_self, ne_eq, Nat.reduceAdd, Nat.reduceMul, Nat.le_refl, ite_self, Nat.reduceEqDiff, Nat.reduceLeDiff, Nat.reduceLT, L_0, L_1, L_2, L_3, L_4, L_5, L_6, L_7, L_8, L_9, L_10, L_11, L_12, L_13, L_14, L_15, L_16, L_24, L_31, L_40, L_48, L_49, L_50, L_51, L_60, L_72, L_99, L_127, L_132, L_172, L_412, L_428, L_429, L_430, L_431, L_432, L_433, L_1000, nI_add, nI_mul, nI_leI, nI_ltI, nI_eq, m_cl, mInb_iff, nI_ng, ng_nI, ng_ng, nI_lt_ng, ng_lt_nI, nI_le_ng, ng_le_nI, Nat.lt_irrefl]
  by_cases cb : m0 < nI (rmG A g r) ∨ (nI (rmG A g r) = m0 ∧ ¬ p0 ≤ nI (dep A r))
  · rcases ff_spec (fun p => inP A r p == 8) (portsK (aR A r 1)) 0 with ⟨f1, f2, f3, f4⟩ | ⟨f1, f2⟩
    · have ef : fpN A r = ff (fun p => inP A r p == 8) 0 (portsK (aR A r 1)) := rfl
      rw [← ef] at f1 f2 f3 f4
      rw [if_pos ⟨by omega, cb⟩]
      refine mLoop_seq0 (b := s229L15L39 μ 200 (nI g) (nI r) (nI (portsK (aR A r 1)))) (fun i => if fpN A r < i then (nI (8 * r + fpN A r), nI (rmG A g r), nI (dep A r), nI i) else (b0, m0, p0, nI i)) (portsK (aR A r 1)) (fun i hi => ?_) ?_ (n := 1000) (by omega)
      · by_cases c : fpN A r < i
        · rw [if_pos c, if_pos (by omega), step _ _ _ i hi, if_neg (fun z => nb z.2)]
        · rw [if_neg c, step _ _ _ i hi]
          by_cases c4 : i = fpN A r
          · rw [if_pos ⟨by rw [c4]; simpa using f3, cb⟩, if_pos (by omega), c4]
          · have := f4 i (by omega) (by omega)
            rw [if_neg (fun z => by simp [z.1] at this), if_neg (by omega)]
      · rw [if_pos (by omega)]; exact fin _ _ _
    · have ef : fpN A r = 0 + portsK (aR A r 1) := f1
      rw [if_neg (by omega)]
      exact mLoop_seq0 (b := s229L15L39 μ 200 (nI g) (nI r) (nI (portsK (aR A r 1)))) (fun i => (b0, m0, p0, nI i)) (portsK (aR A r 1)) (fun i hi => by
        have := f2 i (by omega) (by omega)
        rw [step _ _ _ i hi, if_neg (fun z => by simp [z.1] at this)]) (fin _ _ _) (n := 1000) (by omega)
  · rw [if_neg (fun z => cb z.2)]
    exact mLoop_seq0 (b := s229L15L39 μ 200 (nI g) (nI r) (nI (portsK (aR A r 1)))) (fun i => (b0, m0, p0, nI i)) (portsK (aR A r 1)) (fun i hi => by
      rw [step _ _ _ i hi, if_neg (fun z => cb z.2)]) (fin _ _ _) (n := 1000) (by omega)
theorem bestM (hM : RS μ A) (ht : WFt A) (hu : WFu A) (hg : g ≤ 3) : mLoop (s229L15 μ 200 (nI g)) 1000 (-nI 10, -nI 1, nI 0, nI 0) = some (.inl (eM (bp A g 8)).1) := by
  have hR := hM.1
  have none0 : ∀ (r : Int32) (b0 m0 p0 : Int32), mLoop (s229L15L39 μ 200 (nI g) r (nI 0)) 1000 (b0, m0, p0, nI 0) = some (.inl (b0, m0, p0)) := by
    intro r b0 m0 p0
    exact mLoop_seq0 (b := s229L15L39 μ 200 (nI g) r (nI 0)) (fun i => (b0, m0, p0, nI i)) 0 (fun i hi => by omega) (by simp (disch := omega) only [s229L15L39, Option.bind_some, Sum.elim_inl, Sum.elim_inr, reduceIte, if_true, if_false, ite_true, ite_false, not_true_eq_false, not_false_eq_true, or_true, true_or, or_false, false_or, and_true, true_and, and_false, false_and, eq_self, ne_eq, Nat.reduceAdd, Nat.reduceMul, Nat.le_refl, ite_self, Nat.reduceEqDiff, Nat.reduceLeDiff, Nat.reduceLT, L_0, L_1, L_2, L_3, L_4, L_5, L_6, L_7, L_8, L_9, L_10, L_11, L_12, L_13, L_14, L_15, L_16, L_24, L_31, L_40, L_48, L_49, L_50, L_51, L_60, L_72, L_99, L_127, L_132, L_172, L_412, L_428, L_429, L_430, L_431, L_432, L_433, L_1000, nI_add, nI_mul, nI_leI, nI_ltI, nI_eq, m_cl, mInb_iff, nI_ng, ng_nI, ng_ng, nI_lt_ng, ng_lt_nI, nI_le_ng, ng_le_nI]) (n := 1000) (by omega)
  refine mLoop_seq0 (b := s229L15 μ 200 (nI g)) (fun i => ((eM (bp A g i)).1, (eM (bp A g i)).2.1, (eM (bp A g i)).2.2, nI i)) 8 (fun i hi => ?_) ?_ (n := 1000) (by omega)
  · have hl := ht.le1 (r := i) (by omega)
    by_cases e1 : aR A i 0 = 1
    · have h4 := ht.dep4 (r := i) (by omega) e1
      have hk := kind_le ht (r := i) (by omega) e1
      by_cases e2 : dep A i < 4
      · have hpm := portM hM ht hu (r := i) (by omega) e1 hg (eM (bp A g i)).1 (eM (bp A g i)).2.1 (eM (bp A g i)).2.2
        simp (disch := omega) only [s229L15L39_95, s229L15L39_74, s229L15L39_71, s229L15L39_73, s229L15L39, s229L15_36, s229L15_35, s229L15, s229, RefL.s hR, RefL.r0 hR, RefL.r1 hR, RefL.r2 hR, RefL.r3 hR, RefL.r4 hR, RefL.r5 hR, RefL.r7 hR, RefL.r8 hR, RefL.r9 hR, RefL.r10 hR, RefL.r12 hR, RefL.r13 hR, RefL.r14 hR, RefL.r15 hR, RefL.r16 hR, RefL.r17 hR, RefL.r18 hR, RefL.r19 hR, RefL.a0 hR, RefL.a1 hR, RefL.a2 hR, RefL.a3 hR, RefL.a4 hR, RefL.a5 hR, RefL.a7 hR, RefL.a8 hR, RefL.a9 hR, RefL.a10 hR, RefL.a12 hR, RefL.a13 hR, RefL.a14 hR, RefL.a15 hR, RefL.a16 hR, RefL.a17 hR, RefL.a18 hR, RefL.a19 hR, k148 hM, k152 hM ht, k146, hpm, Option.bind_some, Sum.elim_inl, Sum.elim_inr, reduceIte, if_true, if_false, ite_true, ite_false, not_true_eq_false, not_false_eq_true, or_true, true_or, or_false, false_or, and_true, true_and, and_false, false_and, eq_self, ne_eq, Nat.reduceAdd, Nat.reduceMul, Nat.le_refl, ite_self, Nat.reduceEqDiff, Nat.reduceLeDiff, Nat.reduceLT, L_0, L_1, L_2, L_3, L_4, L_5, L_6, L_7, L_8, L_9, L_10, L_11, L_12, L_13, L_14, L_15, L_16, L_24, L_31, L_40, L_48, L_49, L_50, L_51, L_60, L_72, L_99, L_127, L_132, L_172, L_412, L_428, L_429, L_430, L_431, L_432, L_433, L_1000, nI_add, nI_mul, nI_leI, nI_ltI, nI_eq, m_cl, mInb_iff, nI_ng, ng_nI, ng_ng, nI_lt_ng, ng_lt_nI, nI_le_ng, ng_le_nI, e1, show ¬ 8 ≤ i by omega, show ¬ 4 ≤ dep A i by omega]
        have hgl := rmG_le (A := A) (g := g) (r := i)
        by_cases e3 : fpN A i < portsK (aR A i 1)
        · have e : bpB A i = true := by unfold bpB; simp [e1, e2, e3]
          cases eb : bp A g i with
          | none =>
            have en : bp A g (i + 1) = some (8 * i + fpN A i, rmG A g i, dep A i) := by
              show (if bpB A i = true then _ else _) = _
              rw [if_pos e, eb]
            rw [en]
            simp (disch := omega) only [eM, Option.bind_some, Sum.elim_inl, Sum.elim_inr, reduceIte, if_true, if_false, ite_true, ite_false, not_true_eq_false, not_false_eq_true, or_true, true_or, or_false, false_or, and_true, true_and, and_false, false_and, eq_self, ne_eq, Nat.reduceAdd, Nat.reduceMul, Nat.le_refl, ite_self, Nat.reduceEqDiff, Nat.reduceLeDiff, Nat.reduceLT, L_0, L_1, L_2, L_3, L_4, L_5, L_6, L_7, L_8, L_9, L_10, L_11, L_12, L_13, L_14, L_15, L_16, L_24, L_31, L_40, L_48, L_49, L_50, L_51, L_60, L_72, L_99, L_127, L_132, L_172, L_412, L_428, L_429, L_430, L_431, L_432, L_433, L_1000, nI_add, nI_mul, nI_leI, nI_ltI, nI_eq, m_cl, mInb_iff, nI_ng, ng_nI, ng_ng, nI_lt_ng, ng_lt_nI, nI_le_ng, ng_le_nI, e3]
          | some x =>
            obtain ⟨b, rm, dp⟩ := x
            obtain ⟨l1, l2, l3⟩ := bp_le ht i (by omega) b rm dp eb
            have en : bp A g (i + 1) = (if rm < rmG A g i ∨ (rmG A g i = rm ∧ dep A i < dp) then some (8 * i + fpN A i, rmG A g i, dep A i) else some (b, rm, dp)) := by
              show (if bpB A i = true then _ else _) = _
              rw [if_pos e, eb]
            rw [en]
            simp (disch := omega) only [eM, Option.bind_some, Sum.elim_inl, Sum.elim_inr, reduceIte, if_true, if_false, ite_true, ite_false, not_true_eq_false, not_false_eq_true, or_true, true_or, or_false, false_or, and_true, true_and, and_false, false_and, eq_self, ne_eq, Nat.reduceAdd, Nat.reduceMul, Nat.le_refl, ite_self, Nat.reduceEqDiff, Nat.reduceLeDiff, Nat.reduceLT, L_0, L_1, L_2, L_3, L_4, L_5, L_6, L_7, L_8, L_9, L_10, L_11, L_12, L_13, L_14, L_15, L_16, L_24, L_31, L_40, L_48, L_49, L_50, L_51, L_60, L_72, L_99, L_127, L_132, L_172, L_412, L_428, L_429, L_430, L_431, L_432, L_433, L_1000, nI_add, nI_mul, nI_leI, nI_ltI, nI_eq, m_cl, mInb_iff, nI_ng, ng_nI, ng_ng, nI_lt_ng, ng_lt_nI, nI_le_ng, ng_le_nI, e3]
            by_cases c : rm < rmG A g i ∨ (rmG A g i = rm ∧ dep A i < dp)
            · rw [if_pos c, if_pos (by omega)]
            · rw [if_neg c, if_neg (by omega)]
        · have e : bpB A i = false := by unfold bpB; simp [e3]
          have en : bp A g (i + 1) = bp A g i := by
            show (if bpB A i = true then _ else _) = _
            rw [e]; rfl
          rw [en]
          simp only [e3, false_and, if_false]
      · have e : bpB A i = false := by unfold bpB; simp [e2]
        have en : bp A g (i + 1) = bp A g i := by
          show (if bpB A i = true then _ else _) = _
          rw [e]; rfl
        rw [en]
        simp (disch := omega) only [s229L15L39_95, s229L15L39_74, s229L15L39_71, s229L15L39_73, s229L15L39, s229L15_36, s229L15_35, s229L15, s229, RefL.s hR, RefL.r0 hR, RefL.r1 hR, RefL.r2 hR, RefL.r3 hR, RefL.r4 hR, RefL.r5 hR, RefL.r7 hR, RefL.r8 hR, RefL.r9 hR, RefL.r10 hR, RefL.r12 hR, RefL.r13 hR, RefL.r14 hR, RefL.r15 hR, RefL.r16 hR, RefL.r17 hR, RefL.r18 hR, RefL.r19 hR, RefL.a0 hR, RefL.a1 hR, RefL.a2 hR, RefL.a3 hR, RefL.a4 hR, RefL.a5 hR, RefL.a7 hR, RefL.a8 hR, RefL.a9 hR, RefL.a10 hR, RefL.a12 hR, RefL.a13 hR, RefL.a14 hR, RefL.a15 hR, RefL.a16 hR, RefL.a17 hR, RefL.a18 hR, RefL.a19 hR, k148 hM, k152 hM ht, none0, Option.bind_some, Sum.elim_inl, Sum.elim_inr, reduceIte, if_true, if_false, ite_true, ite_false, not_true_eq_false, not_false_eq_true, or_true, true_or, or_false, false_or, and_true, true_and, and_false, false_and, eq_self, ne_eq, Nat.reduceAdd, Nat.reduceMul, Nat.le_refl, ite_self, Nat.reduceEqDiff, Nat.reduceLeDiff, Nat.reduceLT, L_0, L_1, L_2, L_3, L_4, L_5, L_6, L_7, L_8, L_9, L_10, L_11, L_12, L_13, L_14, L_15, L_16, L_24, L_31, L_40, L_48, L_49, L_50, L_51, L_60, L_72, L_99, L_127, L_132, L_172, L_412, L_428, L_429, L_430, L_431, L_432, L_433, L_1000, nI_add, nI_mul, nI_leI, nI_ltI, nI_eq, m_cl, mInb_iff, nI_ng, ng_nI, ng_ng, nI_lt_ng, ng_lt_nI, nI_le_ng, ng_le_nI, e1, show ¬ 8 ≤ i by omega, show 4 ≤ dep A i by omega]
    · have e : bpB A i = false := by unfold bpB; simp [e1]
      have en : bp A g (i + 1) = bp A g i := by
        show (if bpB A i = true then _ else _) = _
        rw [e]; rfl
      rw [en]
      simp (disch := omega) only [s229L15L39_95, s229L15L39_74, s229L15L39_71, s229L15L39_73, s229L15L39, s229L15_36, s229L15_35, s229L15, s229, RefL.s hR, RefL.r0 hR, RefL.r1 hR, RefL.r2 hR, RefL.r3 hR, RefL.r4 hR, RefL.r5 hR, RefL.r7 hR, RefL.r8 hR, RefL.r9 hR, RefL.r10 hR, RefL.r12 hR, RefL.r13 hR, RefL.r14 hR, RefL.r15 hR, RefL.r16 hR, RefL.r17 hR, RefL.r18 hR, RefL.r19 hR, RefL.a0 hR, RefL.a1 hR, RefL.a2 hR, RefL.a3 hR, RefL.a4 hR, RefL.a5 hR, RefL.a7 hR, RefL.a8 hR, RefL.a9 hR, RefL.a10 hR, RefL.a12 hR, RefL.a13 hR, RefL.a14 hR, RefL.a15 hR, RefL.a16 hR, RefL.a17 hR, RefL.a18 hR, RefL.a19 hR, k148 hM, none0, Option.bind_some, Sum.elim_inl, Sum.elim_inr, reduceIte, if_true, if_false, ite_true, ite_false, not_true_eq_false, not_false_eq_true, or_true, true_or, or_false, false_or, and_true, true_and, and_false, false_and, eq_self, ne_eq, Nat.reduceAdd, Nat.reduceMul, Nat.le_refl, ite_self, Nat.reduceEqDiff, Nat.reduceLeDiff, Nat.reduceLT, L_0, L_1, L_2, L_3, L_4, L_5, L_6, L_7, L_8, L_9, L_10, L_11, L_12, L_13, L_14, L_15, L_16, L_24, L_31, L_40, L_48, L_49, L_50, L_51, L_60, L_72, L_99, L_127, L_132, L_172, L_412, L_428, L_429, L_430, L_431, L_432, L_433, L_1000, nI_add, nI_mul, nI_leI, nI_ltI, nI_eq, m_cl, mInb_iff, nI_ng, ng_nI, ng_ng, nI_lt_ng, ng_lt_nI, nI_le_ng, ng_le_nI, e1, show ¬ 8 ≤ i by omega]
  · simp (disch := omega) only [s229L15, Option.bind_some, Sum.elim_inl, Sum.elim_inr, reduceIte, if_true, if_false, ite_true, ite_false, not_true_eq_false, not_false_eq_true, or_true, true_or, or_false, false_or, and_true, true_and, and_false, false_and, eq_self, ne_eq, Nat.reduceAdd, Nat.reduceMul, Nat.le_refl, ite_self, Nat.reduceEqDiff, Nat.reduceLeDiff, Nat.reduceLT, L_0, L_1, L_2, L_3, L_4, L_5, L_6, L_7, L_8, L_9, L_10, L_11, L_12, L_13, L_14, L_15, L_16, L_24, L_31, L_40, L_48, L_49, L_50, L_51, L_60, L_72, L_99, L_127, L_132, L_172, L_412, L_428, L_429, L_430, L_431, L_432, L_433, L_1000, nI_add, nI_mul, nI_leI, nI_ltI, nI_eq, m_cl, mInb_iff, nI_ng, ng_nI, ng_ng, nI_lt_ng, ng_lt_nI, nI_le_ng, ng_le_nI]
theorem pub24 (hS : St μ A) (x : Int32) : ∃ v, s121 μ 2 x = some v ∧ s229 μ 200 x = some v := by
  obtain ⟨hK, hC, hM, ht, hu⟩ := hS
  rcases btw μ x 1 3 (by omega) (by omega) with ⟨g, rfl, h1, h2, b1, b2⟩ | ⟨-, b1, b2⟩
  · refine ⟨(eC (bp A g 8)).1, ?_, ?_⟩
    · simp (disch := omega) only [s121, b1, bestC hC hK ht hu h2, Option.bind_some, Sum.elim_inl, Sum.elim_inr, reduceIte, if_true, if_false, ite_true, ite_false, not_true_eq_false, not_false_eq_true, or_true, true_or, or_false, false_or, and_true, true_and, and_false, false_and, eq_self, ne_eq, Nat.reduceAdd, Nat.reduceMul, Nat.le_refl, ite_self, Nat.reduceEqDiff, Nat.reduceLeDiff, Nat.reduceLT, L_0, L_1, L_2, L_3, L_4, L_5, L_6, L_7, L_8, L_9, L_10, L_11, L_12, L_13, L_14, L_15, L_16, L_24, L_31, L_40, L_48, L_49, L_50, L_51, L_60, L_72, L_99, L_127, L_132, L_172, L_412, L_428, L_429, L_430, L_431, L_432, L_433, L_1000, nI_add, nI_mul, nI_leI, nI_ltI, nI_eq, m_cl, mInb_iff, nI_ng, ng_nI, ng_ng, nI_lt_ng, ng_lt_nI, nI_le_ng, ng_le_nI]
    · have : (eC (bp A g 8)).1 = (eM (bp A g 8)).1 := by
        cases bp A g 8 with
        | none => rfl
        | some x => rfl
      rw [this]
      simp (disch := omega) only [s229, b2, bestM hM ht hu h2, Option.bind_some, Sum.elim_inl, Sum.elim_inr, reduceIte, if_true, if_false, ite_true, ite_false, not_true_eq_false, not_false_eq_true, or_true, true_or, or_false, false_or, and_true, true_and, and_false, false_and, eq_self, ne_eq, Nat.reduceAdd, Nat.reduceMul, Nat.le_refl, ite_self, Nat.reduceEqDiff, Nat.reduceLeDiff, Nat.reduceLT, L_0, L_1, L_2, L_3, L_4, L_5, L_6, L_7, L_8, L_9, L_10, L_11, L_12, L_13, L_14, L_15, L_16, L_24, L_31, L_40, L_48, L_49, L_50, L_51, L_60, L_72, L_99, L_127, L_132, L_172, L_412, L_428, L_429, L_430, L_431, L_432, L_433, L_1000, nI_add, nI_mul, nI_leI, nI_ltI, nI_eq, m_cl, mInb_iff, nI_ng, ng_nI, ng_ng, nI_lt_ng, ng_lt_nI, nI_le_ng, ng_le_nI]
  · refine ⟨-nI 1, ?_, ?_⟩
    · simp (disch := omega) only [s121, b1, Option.bind_some, Sum.elim_inl, Sum.elim_inr, reduceIte, if_true, if_false, ite_true, ite_false, not_true_eq_false, not_false_eq_true, or_true, true_or, or_false, false_or, and_true, true_and, and_false, false_and, eq_self, ne_eq, Nat.reduceAdd, Nat.reduceMul, Nat.le_refl, ite_self, Nat.reduceEqDiff, Nat.reduceLeDiff, Nat.reduceLT, L_0, L_1, L_2, L_3, L_4, L_5, L_6, L_7, L_8, L_9, L_10, L_11, L_12, L_13, L_14, L_15, L_16, L_24, L_31, L_40, L_48, L_49, L_50, L_51, L_60, L_72, L_99, L_127, L_132, L_172, L_412, L_428, L_429, L_430, L_431, L_432, L_433, L_1000, nI_add, nI_mul, nI_leI, nI_ltI, nI_eq, m_cl, mInb_iff, nI_ng, ng_nI, ng_ng, nI_lt_ng, ng_lt_nI, nI_le_ng, ng_le_nI]
    · simp (disch := omega) only [s229, b2, Option.bind_some, Sum.elim_inl, Sum.elim_inr, reduceIte, if_true, if_false, ite_true, ite_false, not_true_eq_false, not_false_eq_true, or_true, true_or, or_false, false_or, and_true, true_and, and_false, false_and, eq_self, ne_eq, Nat.reduceAdd, Nat.reduceMul, Nat.le_refl, ite_self, Nat.reduceEqDiff, Nat.reduceLeDiff, Nat.reduceLT, L_0, L_1, L_2, L_3, L_4, L_5, L_6, L_7, L_8, L_9, L_10, L_11, L_12, L_13, L_14, L_15, L_16, L_24, L_31, L_40, L_48, L_49, L_50, L_51, L_60, L_72, L_99, L_127, L_132, L_172, L_412, L_428, L_429, L_430, L_431, L_432, L_433, L_1000, nI_add, nI_mul, nI_leI, nI_ltI, nI_eq, m_cl, mInb_iff, nI_ng, ng_nI, ng_ng, nI_lt_ng, ng_lt_nI, nI_le_ng, ng_le_nI]
end PB4
