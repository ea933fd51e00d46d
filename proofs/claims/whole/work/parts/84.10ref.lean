/-! the reference's readers: links, tunnels, sums -/
section RR2
variable {μ : mM} {A : Ab} {r k t d h q : Nat}
theorem lgen_le (ht : WFt A) (h1 : 1 ≤ r) (hr : r < 8) (hp : aR A r 0 = 1) : 1 ≤ lgen A r ∧ lgen A r ≤ 3 := by
  obtain ⟨-, w2, w3, w4, w5, -⟩ := ht.w h1 hr hp
  unfold lgen
  by_cases e : aR A r 3 = 0
  · rw [e, ht.g0]; omega
  · obtain ⟨-, v2, v3, -⟩ := ht.w (by omega) w4 w5
    omega
theorem kind_le (ht : WFt A) (hr : r < 8) (hp : aR A r 0 = 1) : aR A r 1 ≤ 4 := by
  by_cases e : r = 0
  · rw [e, ht.k0]; omega
  · obtain ⟨w1, -⟩ := ht.w (by omega) hr hp; omega
theorem gen_le (ht : WFt A) (hr : r < 8) (hp : aR A r 0 = 1) : 1 ≤ aR A r 2 ∧ aR A r 2 ≤ 3 := by
  by_cases e : r = 0
  · rw [e, ht.g0]; omega
  · obtain ⟨-, w1, w2, -⟩ := ht.w (by omega) hr hp; omega
theorem rateK_le (g : Nat) : 1 ≤ rateK g ∧ rateK g ≤ 4 := by
  unfold rateK; split
  · omega
  · split <;> omega
theorem cap_le (A : Ab) (r d : Nat) : 1 ≤ cap A r d ∧ cap A r d ≤ 12 := by
  have h := rateK_le (lgen A r)
  unfold cap
  split
  · omega
  · split <;> omega
theorem portsK_le (k : Nat) : portsK k ≤ 3 := by
  unfold portsK; repeat' split
  all_goals omega
theorem bufK_le (k : Nat) : bufK k ≤ 40 := by
  unfold bufK; repeat' split
  all_goals omega
theorem poolK_le (A : Ab) (r d : Nat) : poolK A r d ≤ 40 := by
  unfold poolK
  split
  · exact bufK_le _
  · exact Nat.le_trans (Nat.div_le_self _ _) (bufK_le _)
theorem k154 (hM : RS μ A) (ht : WFt A) (hr : r < 8) (hp : aR A r 0 = 1) : s154 μ 200 (nI r) = some (nI (lgen A r)) := by
  have hR := hM.1
  obtain ⟨b1, b2, -⟩ := ht.par hr hp
  have g1 := gen_le ht hr hp
  have g2 := gen_le ht b1 b2
  simp (disch := omega) only [s154, RefL.s hR, RefL.r0 hR, RefL.r1 hR, RefL.r2 hR, RefL.r3 hR, RefL.r4 hR, RefL.r5 hR, RefL.r7 hR, RefL.r8 hR, RefL.r9 hR, RefL.r10 hR, RefL.r12 hR, RefL.r13 hR, RefL.r14 hR, RefL.r15 hR, RefL.r16 hR, RefL.r17 hR, RefL.r18 hR, RefL.r19 hR, RefL.a0 hR, RefL.a1 hR, RefL.a2 hR, RefL.a3 hR, RefL.a4 hR, RefL.a5 hR, RefL.a7 hR, RefL.a8 hR, RefL.a9 hR, RefL.a10 hR, RefL.a12 hR, RefL.a13 hR, RefL.a14 hR, RefL.a15 hR, RefL.a16 hR, RefL.a17 hR, RefL.a18 hR, RefL.a19 hR, k148 hM, k145, Option.bind_some, Sum.elim_inl, Sum.elim_inr, reduceIte, if_true, if_false, ite_true, ite_false, not_true_eq_false, not_false_eq_true, or_true, true_or, or_false, false_or, and_true, true_and, and_false, false_and, eq_self, ne_eq, Nat.reduceAdd, Nat.reduceMul, Nat.le_refl, ite_self, Nat.reduceEqDiff, Nat.reduceLeDiff, Nat.reduceLT, L_0, L_1, L_2, L_3, L_4, L_5, L_6, L_7, L_8, L_9, L_10, L_11, L_12, L_13, L_14, L_15, L_16, L_24, L_31, L_40, L_48, L_49, L_50, L_51, L_60, L_72, L_99, L_127, L_132, L_172, L_412, L_428, L_429, L_430, L_431, L_432, L_433, L_1000, nI_add, nI_mul, nI_leI, nI_ltI, nI_eq, m_cl, mInb_iff, nI_ng, ng_nI, ng_ng, nI_lt_ng, ng_lt_nI, nI_le_ng, ng_le_nI]
  rfl
theorem k155 (hk : k < 2 ^ 31) : s155 μ (nI k) = some (nI (rateK k)) := by
  simp (disch := omega) only [s155_11, s155, Option.bind_some, Sum.elim_inl, Sum.elim_inr, reduceIte, if_true, if_false, ite_true, ite_false, not_true_eq_false, not_false_eq_true, or_true, true_or, or_false, false_or, and_true, true_and, and_false, false_and, eq_self, ne_eq, Nat.reduceAdd, Nat.reduceMul, Nat.le_refl, ite_self, Nat.reduceEqDiff, Nat.reduceLeDiff, Nat.reduceLT, L_0, L_1, L_2, L_3, L_4, L_5, L_6, L_7, L_8, L_9, L_10, L_11, L_12, L_13, L_14, L_15, L_16, L_24, L_31, L_40, L_48, L_49, L_50, L_51, L_60, L_72, L_99, L_127, L_132, L_172, L_412, L_428, L_429, L_430, L_431, L_432, L_433, L_1000, nI_add, nI_mul, nI_leI, nI_ltI, nI_eq, m_cl, mInb_iff, nI_ng, ng_nI, ng_ng, nI_lt_ng, ng_lt_nI, nI_le_ng, ng_le_nI]
  unfold rateK
  repeat' split
  all_goals first | rfl | omega
theorem k156 (hM : RS μ A) (ht : WFt A) (h1 : 1 ≤ r) (hr : r < 8) (hp : aR A r 0 = 1) (hd : d < 2 ^ 31) : s156 μ 200 (nI r) (nI d) = some (nI (cap A r d)) := by
  have hR := hM.1
  obtain ⟨g1, g2⟩ := lgen_le ht h1 hr hp
  obtain ⟨-, -, -, -, -, -, -, -, w5, -⟩ := ht.w h1 hr hp
  simp (disch := omega) only [s156_12, s156, RefL.s hR, RefL.r0 hR, RefL.r1 hR, RefL.r2 hR, RefL.r3 hR, RefL.r4 hR, RefL.r5 hR, RefL.r7 hR, RefL.r8 hR, RefL.r9 hR, RefL.r10 hR, RefL.r12 hR, RefL.r13 hR, RefL.r14 hR, RefL.r15 hR, RefL.r16 hR, RefL.r17 hR, RefL.r18 hR, RefL.r19 hR, RefL.a0 hR, RefL.a1 hR, RefL.a2 hR, RefL.a3 hR, RefL.a4 hR, RefL.a5 hR, RefL.a7 hR, RefL.a8 hR, RefL.a9 hR, RefL.a10 hR, RefL.a12 hR, RefL.a13 hR, RefL.a14 hR, RefL.a15 hR, RefL.a16 hR, RefL.a17 hR, RefL.a18 hR, RefL.a19 hR, k148 hM, k154 hM ht, k155, Option.bind_some, Sum.elim_inl, Sum.elim_inr, reduceIte, if_true, if_false, ite_true, ite_false, not_true_eq_false, not_false_eq_true, or_true, true_or, or_false, false_or, and_true, true_and, and_false, false_and, eq_self, ne_eq, Nat.reduceAdd, Nat.reduceMul, Nat.le_refl, ite_self, Nat.reduceEqDiff, Nat.reduceLeDiff, Nat.reduceLT, L_0, L_1, L_2, L_3, L_4, L_5, L_6, L_7, L_8, L_9, L_10, L_11, L_12, L_13, L_14, L_15, L_16, L_24, L_31, L_40, L_48, L_49, L_50, L_51, L_60, L_72, L_99, L_127, L_132, L_172, L_412, L_428, L_429, L_430, L_431, L_432, L_433, L_1000, nI_add, nI_mul, nI_leI, nI_ltI, nI_eq, m_cl, mInb_iff, nI_ng, ng_nI, ng_ng, nI_lt_ng, ng_lt_nI, nI_le_ng, ng_le_nI]
  unfold cap
  repeat' split
  all_goals first | rfl | omega
theorem k157 (hM : RS μ A) (ht : WFt A) (h1 : 1 ≤ r) (hr : r < 8) (hp : aR A r 0 = 1) : s157 μ 200 (nI r) = some (nI (cap A r 0 - 1)) := by
  have hR := hM.1
  have hc := cap_le A r 0
  simp (disch := omega) only [s157, RefL.s hR, RefL.r0 hR, RefL.r1 hR, RefL.r2 hR, RefL.r3 hR, RefL.r4 hR, RefL.r5 hR, RefL.r7 hR, RefL.r8 hR, RefL.r9 hR, RefL.r10 hR, RefL.r12 hR, RefL.r13 hR, RefL.r14 hR, RefL.r15 hR, RefL.r16 hR, RefL.r17 hR, RefL.r18 hR, RefL.r19 hR, RefL.a0 hR, RefL.a1 hR, RefL.a2 hR, RefL.a3 hR, RefL.a4 hR, RefL.a5 hR, RefL.a7 hR, RefL.a8 hR, RefL.a9 hR, RefL.a10 hR, RefL.a12 hR, RefL.a13 hR, RefL.a14 hR, RefL.a15 hR, RefL.a16 hR, RefL.a17 hR, RefL.a18 hR, RefL.a19 hR, k156 hM ht h1, Option.bind_some, Sum.elim_inl, Sum.elim_inr, reduceIte, if_true, if_false, ite_true, ite_false, not_true_eq_false, not_false_eq_true, or_true, true_or, or_false, false_or, and_true, true_and, and_false, false_and, eq_self, ne_eq, Nat.reduceAdd, Nat.reduceMul, Nat.le_refl, ite_self, Nat.reduceEqDiff, Nat.reduceLeDiff, Nat.reduceLT, L_0, L_1, L_2, L_3, L_4, L_5, L_6, L_7, L_8, L_9, L_10, L_11, L_12, L_13, L_14, L_15, L_16, L_24, L_31, L_40, L_48, L_49, L_50, L_51, L_60, L_72, L_99, L_127, L_132, L_172, L_412, L_428, L_429, L_430, L_431, L_432, L_433, L_1000, nI_add, nI_mul, nI_leI, nI_ltI, nI_eq, m_cl, mInb_iff, nI_ng, ng_nI, ng_ng, nI_lt_ng, ng_lt_nI, nI_le_ng, ng_le_nI, nI_sub]
theorem k158 (hM : RS μ A) (ht : WFt A) (h1 : 1 ≤ r) (hr : r < 8) (hp : aR A r 0 = 1) (hd : d < 2 ^ 31) : s158 μ 200 (nI r) (nI d) = some (nI (poolK A r d)) := by
  have hR := hM.1
  obtain ⟨w1, -, -, w4, w5, -, -, w8, -⟩ := ht.w h1 hr hp
  have hk := kind_le ht w4 w5
  have hb := bufK_le (aR A (aR A r 3) 1)
  have hq := portsK_le (aR A (aR A r 3) 1)
  simp (disch := omega) only [s158_21, s158, RefL.s hR, RefL.r0 hR, RefL.r1 hR, RefL.r2 hR, RefL.r3 hR, RefL.r4 hR, RefL.r5 hR, RefL.r7 hR, RefL.r8 hR, RefL.r9 hR, RefL.r10 hR, RefL.r12 hR, RefL.r13 hR, RefL.r14 hR, RefL.r15 hR, RefL.r16 hR, RefL.r17 hR, RefL.r18 hR, RefL.r19 hR, RefL.a0 hR, RefL.a1 hR, RefL.a2 hR, RefL.a3 hR, RefL.a4 hR, RefL.a5 hR, RefL.a7 hR, RefL.a8 hR, RefL.a9 hR, RefL.a10 hR, RefL.a12 hR, RefL.a13 hR, RefL.a14 hR, RefL.a15 hR, RefL.a16 hR, RefL.a17 hR, RefL.a18 hR, RefL.a19 hR, k148 hM, k146, k147, nI_div, Option.bind_some, Sum.elim_inl, Sum.elim_inr, reduceIte, if_true, if_false, ite_true, ite_false, not_true_eq_false, not_false_eq_true, or_true, true_or, or_false, false_or, and_true, true_and, and_false, false_and, eq_self, ne_eq, Nat.reduceAdd, Nat.reduceMul, Nat.le_refl, ite_self, Nat.reduceEqDiff, Nat.reduceLeDiff, Nat.reduceLT, L_0, L_1, L_2, L_3, L_4, L_5, L_6, L_7, L_8, L_9, L_10, L_11, L_12, L_13, L_14, L_15, L_16, L_24, L_31, L_40, L_48, L_49, L_50, L_51, L_60, L_72, L_99, L_127, L_132, L_172, L_412, L_428, L_429, L_430, L_431, L_432, L_433, L_1000, nI_add, nI_mul, nI_leI, nI_ltI, nI_eq, m_cl, mInb_iff, nI_ng, ng_nI, ng_ng, nI_lt_ng, ng_lt_nI, nI_le_ng, ng_le_nI]
  unfold poolK
  by_cases e : d = 0
  · simp [e]
  · simp [e]; omega
theorem k161 (hM : RS μ A) (hr : t < 10) (h1 : aT A t 0 ≤ 1) : s161 μ 200 (nI t) = some (bI (aT A t 0 == 1)) := by
  have hR := hM.1
  simp (disch := omega) only [s161_14, s161_13, s161, RefL.s hR, RefL.r0 hR, RefL.r1 hR, RefL.r2 hR, RefL.r3 hR, RefL.r4 hR, RefL.r5 hR, RefL.r7 hR, RefL.r8 hR, RefL.r9 hR, RefL.r10 hR, RefL.r12 hR, RefL.r13 hR, RefL.r14 hR, RefL.r15 hR, RefL.r16 hR, RefL.r17 hR, RefL.r18 hR, RefL.r19 hR, RefL.a0 hR, RefL.a1 hR, RefL.a2 hR, RefL.a3 hR, RefL.a4 hR, RefL.a5 hR, RefL.a7 hR, RefL.a8 hR, RefL.a9 hR, RefL.a10 hR, RefL.a12 hR, RefL.a13 hR, RefL.a14 hR, RefL.a15 hR, RefL.a16 hR, RefL.a17 hR, RefL.a18 hR, RefL.a19 hR, k144, k159 hM, Option.bind_some, Sum.elim_inl, Sum.elim_inr, reduceIte, if_true, if_false, ite_true, ite_false, not_true_eq_false, not_false_eq_true, or_true, true_or, or_false, false_or, and_true, true_and, and_false, false_and, eq_self, ne_eq, Nat.reduceAdd, Nat.reduceMul, Nat.le_refl, ite_self, Nat.reduceEqDiff, Nat.reduceLeDiff, Nat.reduceLT, L_0, L_1, L_2, L_3, L_4, L_5, L_6, L_7, L_8, L_9, L_10, L_11, L_12, L_13, L_14, L_15, L_16, L_24, L_31, L_40, L_48, L_49, L_50, L_51, L_60, L_72, L_99, L_127, L_132, L_172, L_412, L_428, L_429, L_430, L_431, L_432, L_433, L_1000, nI_add, nI_mul, nI_leI, nI_ltI, nI_eq, m_cl, mInb_iff, nI_ng, ng_nI, ng_ng, nI_lt_ng, ng_lt_nI, nI_le_ng, ng_le_nI]
  have : aT A t 0 = 0 ∨ aT A t 0 = 1 := by omega
  rcases this with e | e <;> simp (disch := omega) [e, bI, nI_eq, show t ≤ 9 by omega]
theorem k161o (hM : RS μ A) {x : Int32} (h : x < nI 0 ∨ nI 9 < x) : s161 μ 200 x = some (nI 0) := by
  simp (disch := omega) only [s161_14, s161_13, s161, k144o h, Option.bind_some, Sum.elim_inl, Sum.elim_inr, reduceIte, if_true, if_false, ite_true, ite_false, not_true_eq_false, not_false_eq_true, or_true, true_or, or_false, false_or, and_true, true_and, and_false, false_and, eq_self, ne_eq, Nat.reduceAdd, Nat.reduceMul, Nat.le_refl, ite_self, Nat.reduceEqDiff, Nat.reduceLeDiff, Nat.reduceLT, L_0, L_1, L_2, L_3, L_4, L_5, L_6, L_7, L_8, L_9, L_10, L_11, L_12, L_13, L_14, L_15, L_16, L_24, L_31, L_40, L_48, L_49, L_50, L_51, L_60, L_72, L_99, L_127, L_132, L_172, L_412, L_428, L_429, L_430, L_431, L_432, L_433, L_1000, nI_add, nI_mul, nI_leI, nI_ltI, nI_eq, m_cl, mInb_iff, nI_ng, ng_nI, ng_ng, nI_lt_ng, ng_lt_nI, nI_le_ng, ng_le_nI]
theorem k162 (hM : RS μ A) (ht : WFt A) (hu : WFu A) (hr : r < 8) (htt : t < 10) (hd : d < 2 ^ 31) : s162 μ 200 (nI t) (nI r) (nI d) = some (bI (us A t r d)) := by
  have hR := hM.1
  have h1 := hu.le1 htt
  unfold us
  by_cases e : aT A t 0 = 1
  · obtain ⟨o1, o2, o3, o4, -⟩ := hu.o htt e
    simp (disch := omega) only [s162_24, s162_23, s162_21, s162, RefL.s hR, RefL.r0 hR, RefL.r1 hR, RefL.r2 hR, RefL.r3 hR, RefL.r4 hR, RefL.r5 hR, RefL.r7 hR, RefL.r8 hR, RefL.r9 hR, RefL.r10 hR, RefL.r12 hR, RefL.r13 hR, RefL.r14 hR, RefL.r15 hR, RefL.r16 hR, RefL.r17 hR, RefL.r18 hR, RefL.r19 hR, RefL.a0 hR, RefL.a1 hR, RefL.a2 hR, RefL.a3 hR, RefL.a4 hR, RefL.a5 hR, RefL.a7 hR, RefL.a8 hR, RefL.a9 hR, RefL.a10 hR, RefL.a12 hR, RefL.a13 hR, RefL.a14 hR, RefL.a15 hR, RefL.a16 hR, RefL.a17 hR, RefL.a18 hR, RefL.a19 hR, k159 hM, k153 hM ht hr o3 o4, Option.bind_some, Sum.elim_inl, Sum.elim_inr, reduceIte, if_true, if_false, ite_true, ite_false, not_true_eq_false, not_false_eq_true, or_true, true_or, or_false, false_or, and_true, true_and, and_false, false_and, eq_self, ne_eq, Nat.reduceAdd, Nat.reduceMul, Nat.le_refl, ite_self, Nat.reduceEqDiff, Nat.reduceLeDiff, Nat.reduceLT, L_0, L_1, L_2, L_3, L_4, L_5, L_6, L_7, L_8, L_9, L_10, L_11, L_12, L_13, L_14, L_15, L_16, L_24, L_31, L_40, L_48, L_49, L_50, L_51, L_60, L_72, L_99, L_127, L_132, L_172, L_412, L_428, L_429, L_430, L_431, L_432, L_433, L_1000, nI_add, nI_mul, nI_leI, nI_ltI, nI_eq, m_cl, mInb_iff, nI_ng, ng_nI, ng_ng, nI_lt_ng, ng_lt_nI, nI_le_ng, ng_le_nI, bI_0, e]
    cases onb A r (aT A t 2)
    · simp [bI]
    · by_cases e2 : d = 0
      · simp [e2, bI]
      · by_cases e3 : aT A t 1 = 0
        · simp [e2, e3, bI]
        · simp [e2, e3, bI]
  · simp (disch := omega) only [s162_24, s162_23, s162_21, s162, RefL.s hR, RefL.r0 hR, RefL.r1 hR, RefL.r2 hR, RefL.r3 hR, RefL.r4 hR, RefL.r5 hR, RefL.r7 hR, RefL.r8 hR, RefL.r9 hR, RefL.r10 hR, RefL.r12 hR, RefL.r13 hR, RefL.r14 hR, RefL.r15 hR, RefL.r16 hR, RefL.r17 hR, RefL.r18 hR, RefL.r19 hR, RefL.a0 hR, RefL.a1 hR, RefL.a2 hR, RefL.a3 hR, RefL.a4 hR, RefL.a5 hR, RefL.a7 hR, RefL.a8 hR, RefL.a9 hR, RefL.a10 hR, RefL.a12 hR, RefL.a13 hR, RefL.a14 hR, RefL.a15 hR, RefL.a16 hR, RefL.a17 hR, RefL.a18 hR, RefL.a19 hR, k159 hM, Option.bind_some, Sum.elim_inl, Sum.elim_inr, reduceIte, if_true, if_false, ite_true, ite_false, not_true_eq_false, not_false_eq_true, or_true, true_or, or_false, false_or, and_true, true_and, and_false, false_and, eq_self, ne_eq, Nat.reduceAdd, Nat.reduceMul, Nat.le_refl, ite_self, Nat.reduceEqDiff, Nat.reduceLeDiff, Nat.reduceLT, L_0, L_1, L_2, L_3, L_4, L_5, L_6, L_7, L_8, L_9, L_10, L_11, L_12, L_13, L_14, L_15, L_16, L_24, L_31, L_40, L_48, L_49, L_50, L_51, L_60, L_72, L_99, L_127, L_132, L_172, L_412, L_428, L_429, L_430, L_431, L_432, L_433, L_1000, nI_add, nI_mul, nI_leI, nI_ltI, nI_eq, m_cl, mInb_iff, nI_ng, ng_nI, ng_ng, nI_lt_ng, ng_lt_nI, nI_le_ng, ng_le_nI, e]
    simp [e, bI]
theorem k164 (hM : RS μ A) (ht : WFt A) (hu : WFu A) (htt : t < 10) (hd : d < 2) (hus : us A t r d = true) : s164 μ 200 (nI r) (nI (aT A t 2)) (nI d) = some (nI (hx A t r d)) := by
  have hR := hM.1
  obtain ⟨u1, u2, u3⟩ := us_iff.mp hus
  obtain ⟨o1, o2, o3, o4, -⟩ := hu.o htt u1
  obtain ⟨a1, a2, a3, a4, a5, a6⟩ := ht.on o3 o4 u2
  have h4 := ht.dep4 o3 o4
  simp (disch := omega) only [s164_15, s164, RefL.s hR, RefL.r0 hR, RefL.r1 hR, RefL.r2 hR, RefL.r3 hR, RefL.r4 hR, RefL.r5 hR, RefL.r7 hR, RefL.r8 hR, RefL.r9 hR, RefL.r10 hR, RefL.r12 hR, RefL.r13 hR, RefL.r14 hR, RefL.r15 hR, RefL.r16 hR, RefL.r17 hR, RefL.r18 hR, RefL.r19 hR, RefL.a0 hR, RefL.a1 hR, RefL.a2 hR, RefL.a3 hR, RefL.a4 hR, RefL.a5 hR, RefL.a7 hR, RefL.a8 hR, RefL.a9 hR, RefL.a10 hR, RefL.a12 hR, RefL.a13 hR, RefL.a14 hR, RefL.a15 hR, RefL.a16 hR, RefL.a17 hR, RefL.a18 hR, RefL.a19 hR, k152 hM ht, nI_sub, Option.bind_some, Sum.elim_inl, Sum.elim_inr, reduceIte, if_true, if_false, ite_true, ite_false, not_true_eq_false, not_false_eq_true, or_true, true_or, or_false, false_or, and_true, true_and, and_false, false_and, eq_self, ne_eq, Nat.reduceAdd, Nat.reduceMul, Nat.le_refl, ite_self, Nat.reduceEqDiff, Nat.reduceLeDiff, Nat.reduceLT, L_0, L_1, L_2, L_3, L_4, L_5, L_6, L_7, L_8, L_9, L_10, L_11, L_12, L_13, L_14, L_15, L_16, L_24, L_31, L_40, L_48, L_49, L_50, L_51, L_60, L_72, L_99, L_127, L_132, L_172, L_412, L_428, L_429, L_430, L_431, L_432, L_433, L_1000, nI_add, nI_mul, nI_leI, nI_ltI, nI_eq, m_cl, mInb_iff, nI_ng, ng_nI, ng_ng, nI_lt_ng, ng_lt_nI, nI_le_ng, ng_le_nI]
  unfold hx
  by_cases e : d = 0
  · simp [e]
  · simp [e]
/-- where a link lies on a tunnel's way -/
theorem us_hx (ht : WFt A) (hu : WFu A) (htt : t < 10) (hd : d < 2) (hus : us A t r d = true) : hx A t r d < wN A t d ∧ wN A t d = dep A (aT A t 2) ∧ wP A t d (hx A t r d) = r ∧ wN A t d ≤ 4 ∧ wU A t d = 1 ∧ aT A t 0 = 1 ∧ 1 ≤ r ∧ r < 8 ∧ aR A r 0 = 1 := by
  obtain ⟨u1, u2, u3⟩ := us_iff.mp hus
  obtain ⟨o1, o2, o3, o4, -⟩ := hu.o htt u1
  obtain ⟨a1, a2, a3, a4, a5, a6⟩ := ht.on o3 o4 u2
  have h4 := ht.dep4 o3 o4
  have e1 : wN A t d = dep A (aT A t 2) := by unfold wN; rw [if_neg (by omega)]
  have e3 : wU A t d = 1 := by unfold wU; rw [if_neg (by omega)]
  refine ⟨?_, e1, ?_, by omega, e3, u1, a1, a2, a3⟩
  · rw [e1]; unfold hx; split <;> omega
  · unfold wP hx
    split
    · rw [show dep A (aT A t 2) - 1 - (dep A r - 1) = dep A (aT A t 2) - dep A r by omega]; exact a6
    · exact a6
theorem wN_le (ht : WFt A) (hu : WFu A) (htt : t < 10) (ho : aT A t 0 = 1) : wN A t d ≤ 4 := by
  obtain ⟨o1, o2, o3, o4, -⟩ := hu.o htt ho
  have h4 := ht.dep4 o3 o4
  unfold wN; split <;> omega
theorem wP_iff (ht : WFt A) (hu : WFu A) (htt : t < 10) (ho : aT A t 0 = 1) (hd : d < 2) (hh : h < wN A t d) : wP A t d h = r ↔ (us A t r d = true ∧ h = hx A t r d) := by
  obtain ⟨o1, o2, o3, o4, -⟩ := hu.o htt ho
  have e0 : ¬ (d = 1 ∧ aT A t 1 = 0) := by
    intro z; unfold wN at hh; rw [if_pos z] at hh; omega
  have e1 : wN A t d = dep A (aT A t 2) := by unfold wN; rw [if_neg e0]
  rw [e1] at hh
  constructor
  · intro e
    have key : ∀ k, k < dep A (aT A t 2) → anc A (aT A t 2) k = r → us A t r d = true ∧ k = dep A (aT A t 2) - dep A r ∧ 1 ≤ dep A r ∧ dep A r ≤ dep A (aT A t 2) := by
      intro k hk e2
      obtain ⟨c1, c2⟩ := (ht.on_iff o3 o4 k hk).mp e2
      obtain ⟨a1, a2, a3, a4, a5, a6⟩ := ht.on o3 o4 c1
      exact ⟨us_iff.mpr ⟨ho, c1, by omega⟩, c2, a4, a5⟩
    unfold wP at e
    by_cases h0 : d = 0
    · rw [if_pos h0] at e
      obtain ⟨c1, c2, c3, c4⟩ := key _ (by omega) e
      refine ⟨c1, ?_⟩
      unfold hx; rw [if_pos h0]; omega
    · rw [if_neg h0] at e
      obtain ⟨c1, c2, c3, c4⟩ := key _ hh e
      refine ⟨c1, ?_⟩
      unfold hx; rw [if_neg h0]; omega
  · rintro ⟨c1, c2⟩
    rw [c2]; exact (us_hx ht hu htt hd c1).2.2.1
/-- routerOf -/
theorem k165 (hM : RS μ A) (ht : WFt A) (hd : d < 2) (hr : r < 8) (hp : aR A r 0 = 1) (hh : h < dep A r) : s165 μ 200 (nI r) (nI d) (nI h) = some (nI (if d = 0 then anc A r (dep A r - 1 - h) else anc A r h)) := by
  have hR := hM.1
  have h4 := ht.dep4 hr hp
  have key : ∀ n, n < 8 → s165_11 μ 200 (nI r) (nI d) (nI h) (nI n) = some (nI (anc A r n)) := by
    intro n hn
    have e : mLoop (s165L16 μ 200 (nI n)) 1000 (nI r, nI 0) = some (.inl (nI (anc A r n))) := mLoop_seq0 (b := s165L16 μ 200 (nI n)) (fun i => (nI (anc A r i), nI i)) n (fun i hi => by
      obtain ⟨a1, a2, a3⟩ := ht.an hr hp i
      simp (disch := omega) only [s165L16, RefL.s hR, RefL.r0 hR, RefL.r1 hR, RefL.r2 hR, RefL.r3 hR, RefL.r4 hR, RefL.r5 hR, RefL.r7 hR, RefL.r8 hR, RefL.r9 hR, RefL.r10 hR, RefL.r12 hR, RefL.r13 hR, RefL.r14 hR, RefL.r15 hR, RefL.r16 hR, RefL.r17 hR, RefL.r18 hR, RefL.r19 hR, RefL.a0 hR, RefL.a1 hR, RefL.a2 hR, RefL.a3 hR, RefL.a4 hR, RefL.a5 hR, RefL.a7 hR, RefL.a8 hR, RefL.a9 hR, RefL.a10 hR, RefL.a12 hR, RefL.a13 hR, RefL.a14 hR, RefL.a15 hR, RefL.a16 hR, RefL.a17 hR, RefL.a18 hR, RefL.a19 hR, k148 hM, Option.bind_some, Sum.elim_inl, Sum.elim_inr, reduceIte, if_true, if_false, ite_true, ite_false, not_true_eq_false, not_false_eq_true, or_true, true_or, or_false, false_or, and_true, true_and, and_false, false_and, eq_self, ne_eq, Nat.reduceAdd, Nat.reduceMul, Nat.le_refl, ite_self, Nat.reduceEqDiff, Nat.reduceLeDiff, Nat.reduceLT, L_0, L_1, L_2, L_3, L_4, L_5, L_6, L_7, L_8, L_9, L_10, L_11, L_12, L_13, L_14, L_15, L_16, L_24, L_31, L_40, L_48, L_49, L_50, L_51, L_60, L_72, L_99, L_127, L_132, L_172, L_412, L_428, L_429, L_430, L_431, L_432, L_433, L_1000, nI_add, nI_mul, nI_leI, nI_ltI, nI_eq, m_cl, mInb_iff, nI_ng, ng_nI, ng_ng, nI_lt_ng, ng_lt_nI, nI_le_ng, ng_le_nI, show ¬ n ≤ i by omega]
      rfl) (by simp (disch := omega) only [s165L16, Option.bind_some, Sum.elim_inl, Sum.elim_inr, reduceIte, if_true, if_false, ite_true, ite_false, not_true_eq_false, not_false_eq_true, or_true, true_or, or_false, false_or, and_true, true_and, and_false, false_and, eq_self, ne_eq, Nat.reduceAdd, Nat.reduceMul, Nat.le_refl, ite_self, Nat.reduceEqDiff, Nat.reduceLeDiff, Nat.reduceLT, L_0, L_1, L_2, L_3, L_4, L_5, L_6, L_7, L_8, L_9, L_10, L_11, L_12, L_13, L_14, L_15, L_16, L_24, L_31, L_40, L_48, L_49, L_50, L_51, L_60, L_72, L_99, L_127, L_132, L_172, L_412, L_428, L_429, L_430, L_431, L_432, L_433, L_1000, nI_add, nI_mul, nI_leI, nI_ltI, nI_eq, m_cl, mInb_iff, nI_ng, ng_nI, ng_ng, nI_lt_ng, ng_lt_nI, nI_le_ng, ng_le_nI, Nat.le_refl]) (n := 1000) (by omega)
    simp (disch := omega) only [s165_11, Option.bind_some, Sum.elim_inl, Sum.elim_inr, reduceIte, if_true, if_false, ite_true, ite_false, not_true_eq_false, not_false_eq_true, or_true, true_or, or_false, false_or, and_true, true_and, and_false, false_and, eq_self, ne_eq, Nat.reduceAdd, Nat.reduceMul, Nat.le_refl, ite_self, Nat.reduceEqDiff, Nat.reduceLeDiff, Nat.reduceLT, L_0, L_1, L_2, L_3, L_4, L_5, L_6, L_7, L_8, L_9, L_10, L_11, L_12, L_13, L_14, L_15, L_16, L_24, L_31, L_40, L_48, L_49, L_50, L_51, L_60, L_72, L_99, L_127, L_132, L_172, L_412, L_428, L_429, L_430, L_431, L_432, L_433, L_1000, nI_add, nI_mul, nI_leI, nI_ltI, nI_eq, m_cl, mInb_iff, nI_ng, ng_nI, ng_ng, nI_lt_ng, ng_lt_nI, nI_le_ng, ng_le_nI, e]
  by_cases h0 : d = 0
  · subst h0
    simp (disch := omega) only [s165, RefL.s hR, RefL.r0 hR, RefL.r1 hR, RefL.r2 hR, RefL.r3 hR, RefL.r4 hR, RefL.r5 hR, RefL.r7 hR, RefL.r8 hR, RefL.r9 hR, RefL.r10 hR, RefL.r12 hR, RefL.r13 hR, RefL.r14 hR, RefL.r15 hR, RefL.r16 hR, RefL.r17 hR, RefL.r18 hR, RefL.r19 hR, RefL.a0 hR, RefL.a1 hR, RefL.a2 hR, RefL.a3 hR, RefL.a4 hR, RefL.a5 hR, RefL.a7 hR, RefL.a8 hR, RefL.a9 hR, RefL.a10 hR, RefL.a12 hR, RefL.a13 hR, RefL.a14 hR, RefL.a15 hR, RefL.a16 hR, RefL.a17 hR, RefL.a18 hR, RefL.a19 hR, k152 hM ht, nI_sub, Option.bind_some, Sum.elim_inl, Sum.elim_inr, reduceIte, if_true, if_false, ite_true, ite_false, not_true_eq_false, not_false_eq_true, or_true, true_or, or_false, false_or, and_true, true_and, and_false, false_and, eq_self, ne_eq, Nat.reduceAdd, Nat.reduceMul, Nat.le_refl, ite_self, Nat.reduceEqDiff, Nat.reduceLeDiff, Nat.reduceLT, L_0, L_1, L_2, L_3, L_4, L_5, L_6, L_7, L_8, L_9, L_10, L_11, L_12, L_13, L_14, L_15, L_16, L_24, L_31, L_40, L_48, L_49, L_50, L_51, L_60, L_72, L_99, L_127, L_132, L_172, L_412, L_428, L_429, L_430, L_431, L_432, L_433, L_1000, nI_add, nI_mul, nI_leI, nI_ltI, nI_eq, m_cl, mInb_iff, nI_ng, ng_nI, ng_ng, nI_lt_ng, ng_lt_nI, nI_le_ng, ng_le_nI]
    rw [key _ (by omega)]
  · simp (disch := omega) only [s165, Option.bind_some, Sum.elim_inl, Sum.elim_inr, reduceIte, if_true, if_false, ite_true, ite_false, not_true_eq_false, not_false_eq_true, or_true, true_or, or_false, false_or, and_true, true_and, and_false, false_and, eq_self, ne_eq, Nat.reduceAdd, Nat.reduceMul, Nat.le_refl, ite_self, Nat.reduceEqDiff, Nat.reduceLeDiff, Nat.reduceLT, L_0, L_1, L_2, L_3, L_4, L_5, L_6, L_7, L_8, L_9, L_10, L_11, L_12, L_13, L_14, L_15, L_16, L_24, L_31, L_40, L_48, L_49, L_50, L_51, L_60, L_72, L_99, L_127, L_132, L_172, L_412, L_428, L_429, L_430, L_431, L_432, L_433, L_1000, nI_add, nI_mul, nI_leI, nI_ltI, nI_eq, m_cl, mInb_iff, nI_ng, ng_nI, ng_ng, nI_lt_ng, ng_lt_nI, nI_le_ng, ng_le_nI, h0]
    rw [key _ (by omega)]
/-- credits left on a link -/
def free (A : Ab) (r d : Nat) : Int32 := rp (fun t x => if us A t r d = true then x - nI (aW A t d (hx A t r d) 1) else x) 10 (nI (poolK A r d))
theorem k166 (hM : RS μ A) (ht : WFt A) (hu : WFu A) (h1 : 1 ≤ r) (hr : r < 8) (hp : aR A r 0 = 1) (hd : d < 2) : s166 μ 200 (nI r) (nI d) = some (free A r d) := by
  have hR := hM.1
  have e := mLoop_rp (b := s166L7 μ 200 (nI r) (nI d)) (fun i x => (x, nI i)) (fun t x => if us A t r d = true then x - nI (aW A t d (hx A t r d) 1) else x) 10 (a := nI (poolK A r d)) (o := fun x => .inl x) (fun i x hi => by
    by_cases e : us A i r d = true
    · obtain ⟨u1, u2, u3, u4, -⟩ := us_hx ht hu hi hd e
      have e2 := hM.2.2.2.2.1 i d (hx A i r d) 1 hi hd (by omega) (by omega)
      simp (disch := omega) only [s166L7_37, s166L7, s166, RefL.s hR, RefL.r0 hR, RefL.r1 hR, RefL.r2 hR, RefL.r3 hR, RefL.r4 hR, RefL.r5 hR, RefL.r7 hR, RefL.r8 hR, RefL.r9 hR, RefL.r10 hR, RefL.r12 hR, RefL.r13 hR, RefL.r14 hR, RefL.r15 hR, RefL.r16 hR, RefL.r17 hR, RefL.r18 hR, RefL.r19 hR, RefL.a0 hR, RefL.a1 hR, RefL.a2 hR, RefL.a3 hR, RefL.a4 hR, RefL.a5 hR, RefL.a7 hR, RefL.a8 hR, RefL.a9 hR, RefL.a10 hR, RefL.a12 hR, RefL.a13 hR, RefL.a14 hR, RefL.a15 hR, RefL.a16 hR, RefL.a17 hR, RefL.a18 hR, RefL.a19 hR, k162 hM ht hu, k159 hM, k164 hM ht hu hi hd e, s163, Option.bind_some, Sum.elim_inl, Sum.elim_inr, reduceIte, if_true, if_false, ite_true, ite_false, not_true_eq_false, not_false_eq_true, or_true, true_or, or_false, false_or, and_true, true_and, and_false, false_and, eq_self, ne_eq, Nat.reduceAdd, Nat.reduceMul, Nat.le_refl, ite_self, Nat.reduceEqDiff, Nat.reduceLeDiff, Nat.reduceLT, L_0, L_1, L_2, L_3, L_4, L_5, L_6, L_7, L_8, L_9, L_10, L_11, L_12, L_13, L_14, L_15, L_16, L_24, L_31, L_40, L_48, L_49, L_50, L_51, L_60, L_72, L_99, L_127, L_132, L_172, L_412, L_428, L_429, L_430, L_431, L_432, L_433, L_1000, nI_add, nI_mul, nI_leI, nI_ltI, nI_eq, m_cl, mInb_iff, nI_ng, ng_nI, ng_ng, nI_lt_ng, ng_lt_nI, nI_le_ng, ng_le_nI, bI_0, e, show ¬ 10 ≤ i by omega, Bool.true_eq_false, e2]
      rw [if_pos (by omega)]
    · have e' : us A i r d = false := by simpa using e
      simp (disch := omega) only [s166L7_37, s166L7, s166, RefL.s hR, RefL.r0 hR, RefL.r1 hR, RefL.r2 hR, RefL.r3 hR, RefL.r4 hR, RefL.r5 hR, RefL.r7 hR, RefL.r8 hR, RefL.r9 hR, RefL.r10 hR, RefL.r12 hR, RefL.r13 hR, RefL.r14 hR, RefL.r15 hR, RefL.r16 hR, RefL.r17 hR, RefL.r18 hR, RefL.r19 hR, RefL.a0 hR, RefL.a1 hR, RefL.a2 hR, RefL.a3 hR, RefL.a4 hR, RefL.a5 hR, RefL.a7 hR, RefL.a8 hR, RefL.a9 hR, RefL.a10 hR, RefL.a12 hR, RefL.a13 hR, RefL.a14 hR, RefL.a15 hR, RefL.a16 hR, RefL.a17 hR, RefL.a18 hR, RefL.a19 hR, k162 hM ht hu, Option.bind_some, Sum.elim_inl, Sum.elim_inr, reduceIte, if_true, if_false, ite_true, ite_false, not_true_eq_false, not_false_eq_true, or_true, true_or, or_false, false_or, and_true, true_and, and_false, false_and, eq_self, ne_eq, Nat.reduceAdd, Nat.reduceMul, Nat.le_refl, ite_self, Nat.reduceEqDiff, Nat.reduceLeDiff, Nat.reduceLT, L_0, L_1, L_2, L_3, L_4, L_5, L_6, L_7, L_8, L_9, L_10, L_11, L_12, L_13, L_14, L_15, L_16, L_24, L_31, L_40, L_48, L_49, L_50, L_51, L_60, L_72, L_99, L_127, L_132, L_172, L_412, L_428, L_429, L_430, L_431, L_432, L_433, L_1000, nI_add, nI_mul, nI_leI, nI_ltI, nI_eq, m_cl, mInb_iff, nI_ng, ng_nI, ng_ng, nI_lt_ng, ng_lt_nI, nI_le_ng, ng_le_nI, bI_0, e', show ¬ 10 ≤ i by omega, Bool.false_eq_true]) (fun x => by
    simp (disch := omega) only [s166L7, Option.bind_some, Sum.elim_inl, Sum.elim_inr, reduceIte, if_true, if_false, ite_true, ite_false, not_true_eq_false, not_false_eq_true, or_true, true_or, or_false, false_or, and_true, true_and, and_false, false_and, eq_self, ne_eq, Nat.reduceAdd, Nat.reduceMul, Nat.le_refl, ite_self, Nat.reduceEqDiff, Nat.reduceLeDiff, Nat.reduceLT, L_0, L_1, L_2, L_3, L_4, L_5, L_6, L_7, L_8, L_9, L_10, L_11, L_12, L_13, L_14, L_15, L_16, L_24, L_31, L_40, L_48, L_49, L_50, L_51, L_60, L_72, L_99, L_127, L_132, L_172, L_412, L_428, L_429, L_430, L_431, L_432, L_433, L_1000, nI_add, nI_mul, nI_leI, nI_ltI, nI_eq, m_cl, mInb_iff, nI_ng, ng_nI, ng_ng, nI_lt_ng, ng_lt_nI, nI_le_ng, ng_le_nI, Nat.le_refl]) (n := 1000) (by omega)
  simp (disch := omega) only [s166, RefL.s hR, RefL.r0 hR, RefL.r1 hR, RefL.r2 hR, RefL.r3 hR, RefL.r4 hR, RefL.r5 hR, RefL.r7 hR, RefL.r8 hR, RefL.r9 hR, RefL.r10 hR, RefL.r12 hR, RefL.r13 hR, RefL.r14 hR, RefL.r15 hR, RefL.r16 hR, RefL.r17 hR, RefL.r18 hR, RefL.r19 hR, RefL.a0 hR, RefL.a1 hR, RefL.a2 hR, RefL.a3 hR, RefL.a4 hR, RefL.a5 hR, RefL.a7 hR, RefL.a8 hR, RefL.a9 hR, RefL.a10 hR, RefL.a12 hR, RefL.a13 hR, RefL.a14 hR, RefL.a15 hR, RefL.a16 hR, RefL.a17 hR, RefL.a18 hR, RefL.a19 hR, k158 hM ht, Option.bind_some, Sum.elim_inl, Sum.elim_inr, reduceIte, if_true, if_false, ite_true, ite_false, not_true_eq_false, not_false_eq_true, or_true, true_or, or_false, false_or, and_true, true_and, and_false, false_and, eq_self, ne_eq, Nat.reduceAdd, Nat.reduceMul, Nat.le_refl, ite_self, Nat.reduceEqDiff, Nat.reduceLeDiff, Nat.reduceLT, L_0, L_1, L_2, L_3, L_4, L_5, L_6, L_7, L_8, L_9, L_10, L_11, L_12, L_13, L_14, L_15, L_16, L_24, L_31, L_40, L_48, L_49, L_50, L_51, L_60, L_72, L_99, L_127, L_132, L_172, L_412, L_428, L_429, L_430, L_431, L_432, L_433, L_1000, nI_add, nI_mul, nI_leI, nI_ltI, nI_eq, m_cl, mInb_iff, nI_ng, ng_nI, ng_ng, nI_lt_ng, ng_lt_nI, nI_le_ng, ng_le_nI]
  rw [e]
  rfl
end RR2
