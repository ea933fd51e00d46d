/-! the bits of a float, on both sides; load -/
section BO
theorem cv_lt {o : CmpOp} : Op.cmpValue (some .lt) o = -1 := by cases o <;> rfl
theorem cv_eq {o : CmpOp} : Op.cmpValue (some .eq) o = 0 := by cases o <;> rfl
theorem cv_gt {o : CmpOp} : Op.cmpValue (some .gt) o = 1 := by cases o <;> rfl
/-- the bits of a power of 2 -/
def fP (k : Nat) : Nat := 1065353216 + 8388608 * k
theorem fP_half : ∀ k : Fin 5, fV (fP (k.val + 1)) * 2 ^ 149 ≤ fV (fP k.val) * fV 1073741824 := by decide +kernel
theorem fP_two : fV (fP 0) < fV 1073741824 := by decide +kernel
theorem nI_254 : ∀ k : Fin 100, ¬ (254 : Int32) ≤ nI (127 + k.val) := by decide +kernel
theorem nI_126 : ∀ k : Fin 140, (nI k.val - 127 ≤ (-126 : Int32)) ↔ (nI k.val ≤ (1 : Int32)) := by decide +kernel
theorem nI_dn : ∀ k : Fin 140, nI (k.val + 1) + (-1) = nI k.val ∧ nI (k.val + 1) - 127 + (-1) = nI k.val - 127 := by decide +kernel
theorem nI_en : ∀ k : Fin 140, nI k.val - 127 + 126 = nI k.val - 1 := by decide +kernel
theorem nI_st : ∀ k : Fin 100, nI k.val = nI (127 + k.val) - 127 := by decide +kernel
theorem nI_1le : ∀ k : Fin 140, (nI k.val ≤ (1 : Int32)) ↔ k.val ≤ 1 := by decide +kernel
variable {μ μ' : mM}
theorem c2N : FP.fconst2.toNat = 1073741824 := rfl
theorem c1N : FP.fconst1.toNat = 1065353216 := rfl
theorem c0N : FP.fconst0.toNat = 0 := rfl
/-- the first loop: halving -/
theorem bits_up : ∀ (k : Nat) {x : UInt32} {a n : Nat}, k ≤ 5 → x.toNat ≤ fP k → k < n → a + k ≤ 50 → ∃ y j, j ≤ k ∧ y.toNat ≤ fP 5 ∧ mLoop (s142L10 μ) n (x, nI (127 + a)) = some (.inl (y, nI (127 + a + j))) ∧ mLoop (s194L10 μ') n (nI a, x) = some (.inl (nI (a + j), y))
  | k, x, a, 0, h5, hx, hn, ha => by omega
  | k, x, a, n + 1, h5, hx, hn, ha => by
    have hx1 : x.toNat < 2139095040 := by unfold fP at hx; omega
    by_cases hc : fV x.toNat < fV 1073741824
    · have e := fcmp_lt (y := FP.fconst2) hx1 (by rw [c2N]; omega) (by rw [c2N]; exact hc)
      refine ⟨x, 0, by omega, by unfold fP at *; omega, ?_, ?_⟩
      · have : s142L10 μ (x, nI (127 + a)) = some (.inr (.inl (x, nI (127 + a)))) := by
          unfold s142L10; rw [e, cv_lt, if_pos (by decide)]
        simp only [mLoop, this, Nat.add_zero]
      · have : s194L10 μ' (nI a, x) = some (.inr (.inl (nI a, x))) := by
          unfold s194L10; rw [e, cv_lt, if_pos (by decide)]
        simp only [mLoop, this, Nat.add_zero]
    · have hk : ¬ k = 0 := fun z => by
        subst z
        have := fV_mono hx
        have := fP_two
        omega
      obtain ⟨k, rfl⟩ : ∃ j, k = j + 1 := ⟨k - 1, by omega⟩
      have hv : ¬ Op.cmpValue (FP.fcmp x FP.fconst2) CmpOp.l < 0 := by
        rcases fcmp_ge (y := FP.fconst2) hx1 (by rw [c2N]; omega) (by rw [c2N]; omega) with e | e
        · rw [e, cv_gt]; decide
        · rw [e, cv_eq]; decide
      have hd : (FP.fdiv x FP.fconst2).toNat ≤ fP k := fdiv_le hx1 (by rw [c2N]; omega) (by unfold fP; omega) (by rw [c2N]; decide +kernel) (by
        rw [c2N]
        exact Nat.le_trans (Nat.mul_le_mul_right _ (fV_mono hx)) (fP_half ⟨k, by omega⟩))
      have hnn := nn_le hd (by unfold fP; omega)
      have h254 := nI_254 ⟨a, by omega⟩
      simp only at h254
      obtain ⟨y, j, q1, q2, q3, q4⟩ := bits_up k (x := FP.fdiv x FP.fconst2) (a := a + 1) (n := n) (by omega) hd (by omega) (by omega)
      refine ⟨y, j + 1, by omega, q2, ?_, ?_⟩
      · have : s142L10 μ (x, nI (127 + a)) = some (.inl (FP.fdiv x FP.fconst2, nI (127 + (a + 1)))) := by
          unfold s142L10
          rw [if_neg hv, if_neg h254, if_pos hnn]
          rw [show nI (127 + a) + 1 = nI (127 + a + 1) from nI_add _ 1]; rfl
        simp only [mLoop, this, q3]
        rw [show 127 + (a + 1) + j = 127 + a + (j + 1) by omega]
      · have : s194L10 μ' (nI a, x) = some (.inl (nI (a + 1), FP.fdiv x FP.fconst2)) := by
          unfold s194L10
          rw [if_neg hv, if_pos hnn]
          rw [show nI a + 1 = nI (a + 1) from nI_add _ 1]
        simp only [mLoop, this, q4]
        rw [show a + 1 + j = a + (j + 1) by omega]
theorem fP_one : fV (fP 0) * fV 1073741824 ≤ fV 1073741824 * 2 ^ 149 := by decide +kernel
theorem bits_dn : ∀ (E : Nat) {y : UInt32} {n : Nat}, E < 139 → y.toNat ≤ fP 5 → E < n → ∃ y' E', E' < 140 ∧ y'.toNat ≤ fP 5 ∧ mLoop (s142L23 μ) n (y, nI E) = some (.inl (y', nI E')) ∧ mLoop (s194L20 μ') n (nI E - 127, y) = some (.inl (nI E' - 127, y'))
  | E, y, 0, hE, hy, hn => by omega
  | E, y, n + 1, hE, hy, hn => by
    have hy1 : y.toNat < 2139095040 := by unfold fP at hy; omega
    by_cases hc : fV y.toNat < fV 1065353216
    · have e := fcmp_lt (y := FP.fconst1) hy1 (by rw [c1N]; omega) (by rw [c1N]; exact hc)
      have hv : ¬ 0 ≤ Op.cmpValue (FP.fcmp y FP.fconst1) CmpOp.g := by rw [e, cv_lt]; decide
      have i1 := nI_126 ⟨E, by omega⟩
      have i2 := nI_1le ⟨E, by omega⟩
      simp only at i1 i2
      by_cases h1 : E ≤ 1
      · refine ⟨y, E, by omega, hy, ?_, ?_⟩
        · have : s142L23 μ (y, nI E) = some (.inr (.inl (y, nI E))) := by
            unfold s142L23; rw [if_neg hv, if_pos (i2.mpr h1)]
          simp only [mLoop, this]
        · have : s194L20 μ' (nI E - 127, y) = some (.inr (.inl (nI E - 127, y))) := by
            unfold s194L20; rw [if_neg hv, if_pos (i1.mpr (i2.mpr h1))]
          simp only [mLoop, this]
      · obtain ⟨E, rfl⟩ : ∃ j, E = j + 1 := ⟨E - 1, by omega⟩
        have hm : (FP.fmul y FP.fconst2).toNat ≤ 1073741824 := fmul_le hy1 (by rw [c2N]; omega) (by omega) (by
          rw [c2N]
          exact Nat.le_trans (Nat.mul_le_mul_right _ (Nat.le_of_lt hc)) fP_one)
        have hnn := nn_le hm (by omega)
        obtain ⟨d1, d2⟩ := nI_dn ⟨E, by omega⟩
        simp only at d1 d2
        obtain ⟨y', E', q1, q2, q3, q4⟩ := bits_dn E (y := FP.fmul y FP.fconst2) (n := n) (by omega) (by unfold fP; omega) (by omega)
        refine ⟨y', E', q1, q2, ?_, ?_⟩
        · have : s142L23 μ (y, nI (E + 1)) = some (.inl (FP.fmul y FP.fconst2, nI E)) := by
            unfold s142L23; rw [if_neg hv, if_neg (fun z => h1 (i2.mp z)), if_pos hnn]; simp only; rw [d1]
          simp only [mLoop, this, q3]
        · have : s194L20 μ' (nI (E + 1) - 127, y) = some (.inl (nI E - 127, FP.fmul y FP.fconst2)) := by
            unfold s194L20; rw [if_neg hv, if_neg (fun z => h1 (i2.mp (i1.mp z))), if_pos hnn]; simp only; rw [d2]
          simp only [mLoop, this, q4]
    · have hv : 0 ≤ Op.cmpValue (FP.fcmp y FP.fconst1) CmpOp.g := by
        rcases fcmp_ge (y := FP.fconst1) hy1 (by rw [c1N]; omega) (by rw [c1N]; omega) with e | e
        · rw [e, cv_gt]; decide
        · rw [e, cv_eq]; decide
      refine ⟨y, E, by omega, hy, ?_, ?_⟩
      · have : s142L23 μ (y, nI E) = some (.inr (.inl (y, nI E))) := by
          unfold s142L23; rw [if_pos hv]
        simp only [mLoop, this]
      · have : s194L20 μ' (nI E - 127, y) = some (.inr (.inl (nI E - 127, y))) := by
          unfold s194L20; rw [if_pos hv]
        simp only [mLoop, this]
theorem fP_end : fV (fP 5) * fV 1258291200 ≤ fV 1300234240 * 2 ^ 149 := by decide +kernel
theorem c8N : (UInt32.ofNat 1258291200).toNat = 1258291200 := rfl
theorem bits_eq {x : UInt32} (hx : x.toNat ≤ fP 5) : ∃ v, s142 μ x = some v ∧ s194 μ' x = some v := by
  have hx1 : x.toNat < 2139095040 := by unfold fP at hx; omega
  rcases fcmp_ge (y := FP.fconst0) hx1 (by rw [c0N]; omega) (by rw [c0N]; exact Nat.zero_le _) with e | e
  · obtain ⟨y, j, q1, q2, q3, q4⟩ := bits_up (μ := μ) (μ' := μ') 5 (x := x) (a := 0) (n := 1000) (by omega) hx (by omega) (by omega)
    obtain ⟨y', E', r1, r2, r3, r4⟩ := bits_dn (μ := μ) (μ' := μ') (127 + 0 + j) (y := y) (n := 1000) (by omega) q2 (by omega)
    have hm : (FP.fmul y' (UInt32.ofNat 1258291200)).toNat ≤ 1300234240 := fmul_le (by unfold fP at r2; omega) (by rw [c8N]; omega) (by omega) (by
      rw [c8N]
      exact Nat.le_trans (Nat.mul_le_mul_right _ (fV_mono r2)) fP_end)
    have hnn := nn_le hm (by omega)
    have s1 := nI_st ⟨j, by omega⟩
    have s2 := nI_en ⟨E', by omega⟩
    simp only at s1 s2
    refine ⟨((nI E' - 1) <<< (23 &&& 31)) + FP.f2i (FP.fmul y' (UInt32.ofNat 1258291200)), ?_, ?_⟩
    · unfold s142
      rw [e, cv_gt, if_pos (by decide), show (127 : Int32) = nI (127 + 0) from rfl, q3]
      simp only [Option.bind_some, Sum.elim_inl]
      rw [r3]
      simp only [Option.bind_some, Sum.elim_inl]
      unfold s142_36
      rw [if_pos hnn]
    · unfold s194
      rw [e, cv_gt, if_pos (by decide), show (0 : Int32) = nI 0 from rfl, q4]
      simp only [Option.bind_some, Sum.elim_inl]
      rw [show nI (0 + j) = nI (127 + 0 + j) - 127 by rw [Nat.zero_add, Nat.add_zero]; exact s1, r4]
      simp only [Option.bind_some, Sum.elim_inl]
      unfold s194_33
      rw [if_pos hnn, s2]
  · refine ⟨0, ?_, ?_⟩
    · unfold s142; rw [e, cv_eq, if_neg (by decide)]
    · unfold s194; rw [e, cv_eq, if_neg (by decide)]
theorem pub12 {A : Ab} (hS : St μ A) (x y : Int32) : ∃ v, s109 μ 2 x y = some v ∧ s195 μ 200 x y = some v := by
  obtain ⟨hK, hC, hM, ht, hu⟩ := hS
  have hF := hC.1
  have hR := hM.1
  rcases lnk hC hM ht x with ⟨r, rfl, h1, hr, hp, l1, l2⟩ | ⟨l1, l2⟩
  · rcases dir μ y with ⟨d, rfl, hd, d1, d2⟩ | ⟨d1, d2⟩
    · obtain ⟨-, -, -, -, -, -, -, -, -, -, -, -, -, wl⟩ := ht.w h1 hr hp
      have hl := wl d hd
      obtain ⟨v, e1, e2⟩ := bits_eq (μ := μ) (μ' := μ) (x := aL A r d) (by unfold fP; omega)
      have e3 := hM.2.2.2.2.2.2.2 r d hr hd
      have e4 : 2 * r + d < 16 := by omega
      refine ⟨v, ?_, ?_⟩
      · simp (disch := omega) only [s109_8, s109, ClsL.s hK, ClsL.p0 hK, ClsL.p1 hK, ClsL.p2 hK, ClsL.p3 hK, ClsL.p4 hK, ClsL.p5 hK, ClsL.s192 hK, ClsL.s199 hK, FabL.s0 hF, FabL.p0 hF, FabL.p1 hF, FabL.s1 hF, FabL.s2 hF, FabL.r hF, FabL.rs hF, FabL.rl hF, FabL.ls hF, FabL.l5 hF, FabL.l6 hF, FabL.l7 hF, FabL.l8 hF, FabL.q2 hF, FabL.q3 hF, FabL.q4 hF, FabL.q5 hF, FabL.tp hF, FabL.ts hF, FabL.td hF, FabL.tw hF, FabL.ws hF, FabL.w4 hF, FabL.w5 hF, FabL.w6 hF, FabL.w7 hF, FabL.w8 hF, FabL.v1 hF, FabL.v2 hF, FabL.v3 hF, FabL.v4 hF, FabL.v5 hF, l1, d1, j18 hF, RepC.ld hC.2, hd, e1, Option.bind_some, Sum.elim_inl, Sum.elim_inr, reduceIte, if_true, if_false, ite_true, ite_false, not_true_eq_false, not_false_eq_true, or_true, true_or, or_false, false_or, and_true, true_and, and_false, false_and, eq_self, ne_eq, Nat.reduceAdd, Nat.reduceMul, Nat.le_refl, ite_self, Nat.reduceEqDiff, Nat.reduceLeDiff, Nat.reduceLT, L_0, L_1, L_2, L_3, L_4, L_5, L_6, L_7, L_8, L_9, L_10, L_11, L_12, L_13, L_14, L_15, L_16, L_24, L_31, L_40, L_48, L_49, L_50, L_51, L_60, L_72, L_99, L_127, L_132, L_172, L_412, L_428, L_429, L_430, L_431, L_432, L_433, L_1000, nI_add, nI_mul, nI_leI, nI_ltI, nI_eq, m_cl, mInb_iff, nI_ng, ng_nI, ng_ng, nI_lt_ng, ng_lt_nI, nI_le_ng, ng_le_nI]
      · simp (disch := omega) only [s195_16, s195, s191_12, s191_11, s191, RefL.s hR, RefL.r0 hR, RefL.r1 hR, RefL.r2 hR, RefL.r3 hR, RefL.r4 hR, RefL.r5 hR, RefL.r7 hR, RefL.r8 hR, RefL.r9 hR, RefL.r10 hR, RefL.r12 hR, RefL.r13 hR, RefL.r14 hR, RefL.r15 hR, RefL.r16 hR, RefL.r17 hR, RefL.r18 hR, RefL.r19 hR, RefL.a0 hR, RefL.a1 hR, RefL.a2 hR, RefL.a3 hR, RefL.a4 hR, RefL.a5 hR, RefL.a7 hR, RefL.a8 hR, RefL.a9 hR, RefL.a10 hR, RefL.a12 hR, RefL.a13 hR, RefL.a14 hR, RefL.a15 hR, RefL.a16 hR, RefL.a17 hR, RefL.a18 hR, RefL.a19 hR, l2, d2, e3, e4, e2, Option.bind_some, Sum.elim_inl, Sum.elim_inr, reduceIte, if_true, if_false, ite_true, ite_false, not_true_eq_false, not_false_eq_true, or_true, true_or, or_false, false_or, and_true, true_and, and_false, false_and, eq_self, ne_eq, Nat.reduceAdd, Nat.reduceMul, Nat.le_refl, ite_self, Nat.reduceEqDiff, Nat.reduceLeDiff, Nat.reduceLT, L_0, L_1, L_2, L_3, L_4, L_5, L_6, L_7, L_8, L_9, L_10, L_11, L_12, L_13, L_14, L_15, L_16, L_24, L_31, L_40, L_48, L_49, L_50, L_51, L_60, L_72, L_99, L_127, L_132, L_172, L_412, L_428, L_429, L_430, L_431, L_432, L_433, L_1000, nI_add, nI_mul, nI_leI, nI_ltI, nI_eq, m_cl, mInb_iff, nI_ng, ng_nI, ng_ng, nI_lt_ng, ng_lt_nI, nI_le_ng, ng_le_nI]
    · refine ⟨-nI 1, ?_, ?_⟩
      · simp (disch := omega) only [s109_8, s109, ClsL.s hK, ClsL.p0 hK, ClsL.p1 hK, ClsL.p2 hK, ClsL.p3 hK, ClsL.p4 hK, ClsL.p5 hK, ClsL.s192 hK, ClsL.s199 hK, FabL.s0 hF, FabL.p0 hF, FabL.p1 hF, FabL.s1 hF, FabL.s2 hF, FabL.r hF, FabL.rs hF, FabL.rl hF, FabL.ls hF, FabL.l5 hF, FabL.l6 hF, FabL.l7 hF, FabL.l8 hF, FabL.q2 hF, FabL.q3 hF, FabL.q4 hF, FabL.q5 hF, FabL.tp hF, FabL.ts hF, FabL.td hF, FabL.tw hF, FabL.ws hF, FabL.w4 hF, FabL.w5 hF, FabL.w6 hF, FabL.w7 hF, FabL.w8 hF, FabL.v1 hF, FabL.v2 hF, FabL.v3 hF, FabL.v4 hF, FabL.v5 hF, l1, d1, Option.bind_some, Sum.elim_inl, Sum.elim_inr, reduceIte, if_true, if_false, ite_true, ite_false, not_true_eq_false, not_false_eq_true, or_true, true_or, or_false, false_or, and_true, true_and, and_false, false_and, eq_self, ne_eq, Nat.reduceAdd, Nat.reduceMul, Nat.le_refl, ite_self, Nat.reduceEqDiff, Nat.reduceLeDiff, Nat.reduceLT, L_0, L_1, L_2, L_3, L_4, L_5, L_6, L_7, L_8, L_9, L_10, L_11, L_12, L_13, L_14, L_15, L_16, L_24, L_31, L_40, L_48, L_49, L_50, L_51, L_60, L_72, L_99, L_127, L_132, L_172, L_412, L_428, L_429, L_430, L_431, L_432, L_433, L_1000, nI_add, nI_mul, nI_leI, nI_ltI, nI_eq, m_cl, mInb_iff, nI_ng, ng_nI, ng_ng, nI_lt_ng, ng_lt_nI, nI_le_ng, ng_le_nI]
      · simp (disch := omega) only [s195_16, s195, s191_12, s191_11, s191, RefL.s hR, RefL.r0 hR, RefL.r1 hR, RefL.r2 hR, RefL.r3 hR, RefL.r4 hR, RefL.r5 hR, RefL.r7 hR, RefL.r8 hR, RefL.r9 hR, RefL.r10 hR, RefL.r12 hR, RefL.r13 hR, RefL.r14 hR, RefL.r15 hR, RefL.r16 hR, RefL.r17 hR, RefL.r18 hR, RefL.r19 hR, RefL.a0 hR, RefL.a1 hR, RefL.a2 hR, RefL.a3 hR, RefL.a4 hR, RefL.a5 hR, RefL.a7 hR, RefL.a8 hR, RefL.a9 hR, RefL.a10 hR, RefL.a12 hR, RefL.a13 hR, RefL.a14 hR, RefL.a15 hR, RefL.a16 hR, RefL.a17 hR, RefL.a18 hR, RefL.a19 hR, l2, d2, Option.bind_some, Sum.elim_inl, Sum.elim_inr, reduceIte, if_true, if_false, ite_true, ite_false, not_true_eq_false, not_false_eq_true, or_true, true_or, or_false, false_or, and_true, true_and, and_false, false_and, eq_self, ne_eq, Nat.reduceAdd, Nat.reduceMul, Nat.le_refl, ite_self, Nat.reduceEqDiff, Nat.reduceLeDiff, Nat.reduceLT, L_0, L_1, L_2, L_3, L_4, L_5, L_6, L_7, L_8, L_9, L_10, L_11, L_12, L_13, L_14, L_15, L_16, L_24, L_31, L_40, L_48, L_49, L_50, L_51, L_60, L_72, L_99, L_127, L_132, L_172, L_412, L_428, L_429, L_430, L_431, L_432, L_433, L_1000, nI_add, nI_mul, nI_leI, nI_ltI, nI_eq, m_cl, mInb_iff, nI_ng, ng_nI, ng_ng, nI_lt_ng, ng_lt_nI, nI_le_ng, ng_le_nI]
  · refine ⟨-nI 1, ?_, ?_⟩
    · simp (disch := omega) only [s109_8, s109, ClsL.s hK, ClsL.p0 hK, ClsL.p1 hK, ClsL.p2 hK, ClsL.p3 hK, ClsL.p4 hK, ClsL.p5 hK, ClsL.s192 hK, ClsL.s199 hK, FabL.s0 hF, FabL.p0 hF, FabL.p1 hF, FabL.s1 hF, FabL.s2 hF, FabL.r hF, FabL.rs hF, FabL.rl hF, FabL.ls hF, FabL.l5 hF, FabL.l6 hF, FabL.l7 hF, FabL.l8 hF, FabL.q2 hF, FabL.q3 hF, FabL.q4 hF, FabL.q5 hF, FabL.tp hF, FabL.ts hF, FabL.td hF, FabL.tw hF, FabL.ws hF, FabL.w4 hF, FabL.w5 hF, FabL.w6 hF, FabL.w7 hF, FabL.w8 hF, FabL.v1 hF, FabL.v2 hF, FabL.v3 hF, FabL.v4 hF, FabL.v5 hF, l1, Option.bind_some, Sum.elim_inl, Sum.elim_inr, reduceIte, if_true, if_false, ite_true, ite_false, not_true_eq_false, not_false_eq_true, or_true, true_or, or_false, false_or, and_true, true_and, and_false, false_and, eq_self, ne_eq, Nat.reduceAdd, Nat.reduceMul, Nat.le_refl, ite_self, Nat.reduceEqDiff, Nat.reduceLeDiff, Nat.reduceLT, L_0, L_1, L_2, L_3, L_4, L_5, L_6, L_7, L_8, L_9, L_10, L_11, L_12, L_13, L_14, L_15, L_16, L_24, L_31, L_40, L_48, L_49, L_50, L_51, L_60, L_72, L_99, L_127, L_132, L_172, L_412, L_428, L_429, L_430, L_431, L_432, L_433, L_1000, nI_add, nI_mul, nI_leI, nI_ltI, nI_eq, m_cl, mInb_iff, nI_ng, ng_nI, ng_ng, nI_lt_ng, ng_lt_nI, nI_le_ng, ng_le_nI]
    · simp (disch := omega) only [s195_16, s195, s191_12, s191_11, s191, RefL.s hR, RefL.r0 hR, RefL.r1 hR, RefL.r2 hR, RefL.r3 hR, RefL.r4 hR, RefL.r5 hR, RefL.r7 hR, RefL.r8 hR, RefL.r9 hR, RefL.r10 hR, RefL.r12 hR, RefL.r13 hR, RefL.r14 hR, RefL.r15 hR, RefL.r16 hR, RefL.r17 hR, RefL.r18 hR, RefL.r19 hR, RefL.a0 hR, RefL.a1 hR, RefL.a2 hR, RefL.a3 hR, RefL.a4 hR, RefL.a5 hR, RefL.a7 hR, RefL.a8 hR, RefL.a9 hR, RefL.a10 hR, RefL.a12 hR, RefL.a13 hR, RefL.a14 hR, RefL.a15 hR, RefL.a16 hR, RefL.a17 hR, RefL.a18 hR, RefL.a19 hR, l2, Option.bind_some, Sum.elim_inl, Sum.elim_inr, reduceIte, if_true, if_false, ite_true, ite_false, not_true_eq_false, not_false_eq_true, or_true, true_or, or_false, false_or, and_true, true_and, and_false, false_and, eq_self, ne_eq, Nat.reduceAdd, Nat.reduceMul, Nat.le_refl, ite_self, Nat.reduceEqDiff, Nat.reduceLeDiff, Nat.reduceLT, L_0, L_1, L_2, L_3, L_4, L_5, L_6, L_7, L_8, L_9, L_10, L_11, L_12, L_13, L_14, L_15, L_16, L_24, L_31, L_40, L_48, L_49, L_50, L_51, L_60, L_72, L_99, L_127, L_132, L_172, L_412, L_428, L_429, L_430, L_431, L_432, L_433, L_1000, nI_add, nI_mul, nI_leI, nI_ltI, nI_eq, m_cl, mInb_iff, nI_ng, ng_nI, ng_ng, nI_lt_ng, ng_lt_nI, nI_le_ng, ng_le_nI]
theorem op12 {L : Nat} {xs : Nat → Int32} : Op12 (Inv L xs) := fun x y => CP_op fun μ A hS => pub12 hS x y
end BO
