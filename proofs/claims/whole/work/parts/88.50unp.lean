/-! unplug, both sides -/
section UP
variable {μ μ' : mM} {A A' : Ab} {f r k t d h q v : Nat} {L : Nat} {xs : Nat → Int32} {p : Nat → Bool}
theorem us_fst {a : Nat} (ho : aT A a 0 = 1) (h : ¬ us A a r 0 = true) : onb A r (aT A a 2) = false := by
  cases e : onb A r (aT A a 2)
  · rfl
  · exact absurd (us_iff.mpr ⟨ho, e, Or.inl rfl⟩) h
theorem op5 : Op5 (Inv L xs) := fun x => CI_op fun μ A hS hZ => by
  obtain ⟨hK, hC, hM, ht, hu⟩ := hS
  have hR := hM.1
  have hF := hC.1
  rcases lnk hC hM ht x with ⟨r, rfl, h1, hr, hp, l1, l2⟩ | ⟨l1, l2⟩
  · have sR : ∀ n a k, aR (shN (fun t => us A t r 0) n A) a k = aR A a k := fun n a k => by show (shN (fun t => us A t r 0) n A).1 a k = _; rw [(shN_eq n).1]
    have s3 : ∀ n a, aR (shN (fun t => us A t r 0) n A) a 3 = aR A a 3 := fun n a => sR n a 3
    -- the class closes tunnels
    obtain ⟨μ1, e1, f1, g1⟩ := mLoop_mem (b := s102L9 2 (nI r)) (μ := μ) (fun i ν => FrF 11 μ ν ∧ CS ν 11 (shN (fun t => us A t r 0) i A)) 0 10 (fun i ν hi hJ => by
      obtain ⟨hf, hCν⟩ := hJ
      have hK := hK.fr hf.1
      have hF := hCν.1
      have hA := shN_wft (p := fun t => us A t r 0) ht i
      have hB := shN_wfu (p := fun t => us A t r 0) hu i
      have w := j79 (r := r) hCν hA hB hi (by omega)
      rw [us_cg (A := A) (s3 i) (shN_self i 0) (shN_self i 1) (shN_self i 2)] at w
      rw [Nat.zero_add]
      by_cases e : us A i r 0 = true
      · rw [e] at w
        have ho : aT (shN (fun t => us A t r 0) i A) i 0 = 1 := by rw [shN_self]; exact (us_iff.mp e).1
        have c1 := j50 hCν hA hB hi ho
        have c2 := CS.shutT hCν (WN.of hA hB) hi
        have hf2 : FrF 11 ν _ := FrF.shut (μ := ν) (f := 11) (t := i) (x := nI 0) (y := nI (aC (shN (fun t => us A t r 0) i A) 2 + lostN (shN (fun t => us A t r 0) i A) i)) hi
        generalize mUI (mUI ν (tu 11 i) 0 (nI 0)) 11 5 (nI (aC (shN (fun t => us A t r 0) i A) 2 + lostN (shN (fun t => us A t r 0) i A) i)) = ν' at *
        refine ⟨ν', ?_, hf.trans hf2, ?_⟩
        · simp (disch := omega) only [s102L9_25, s102L9, s102, ClsL.s hK, ClsL.p0 hK, ClsL.p1 hK, ClsL.p2 hK, ClsL.p3 hK, ClsL.p4 hK, ClsL.p5 hK, ClsL.s192 hK, ClsL.s199 hK, FabL.s0 hF, FabL.p0 hF, FabL.p1 hF, FabL.s1 hF, FabL.s2 hF, FabL.r hF, FabL.rs hF, FabL.rl hF, FabL.ls hF, FabL.l5 hF, FabL.l6 hF, FabL.l7 hF, FabL.l8 hF, FabL.q2 hF, FabL.q3 hF, FabL.q4 hF, FabL.q5 hF, FabL.tp hF, FabL.ts hF, FabL.td hF, FabL.tw hF, FabL.ws hF, FabL.w4 hF, FabL.w5 hF, FabL.w6 hF, FabL.w7 hF, FabL.w8 hF, FabL.v1 hF, FabL.v2 hF, FabL.v3 hF, FabL.v4 hF, FabL.v5 hF, w, c1, bI_t, Option.bind_some, Sum.elim_inl, Sum.elim_inr, reduceIte, if_true, if_false, ite_true, ite_false, not_true_eq_false, not_false_eq_true, or_true, true_or, or_false, false_or, and_true, true_and, and_false, false_and, eq_self, ne_eq, Nat.reduceAdd, Nat.reduceMul, Nat.le_refl, ite_self, Nat.reduceEqDiff, Nat.reduceLeDiff, Nat.reduceLT, L_0, L_1, L_2, L_3, L_4, L_5, L_6, L_7, L_8, L_9, L_10, L_11, L_12, L_13, L_14, L_15, L_16, L_24, L_31, L_40, L_48, L_49, L_50, L_51, L_60, L_72, L_99, L_127, L_132, L_172, L_412, L_428, L_429, L_430, L_431, L_432, L_433, L_1000, nI_add, nI_mul, nI_leI, nI_ltI, nI_eq, m_cl, mInb_iff, nI_ng, ng_nI, ng_ng, nI_lt_ng, ng_lt_nI, nI_le_ng, ng_le_nI, show ¬ 10 ≤ i by omega, hi]
        · unfold shN; rw [if_pos e]; exact c2
      · have e' : us A i r 0 = false := by simpa using e
        rw [e'] at w
        refine ⟨ν, ?_, hf, ?_⟩
        · simp (disch := omega) only [s102L9_25, s102L9, s102, ClsL.s hK, ClsL.p0 hK, ClsL.p1 hK, ClsL.p2 hK, ClsL.p3 hK, ClsL.p4 hK, ClsL.p5 hK, ClsL.s192 hK, ClsL.s199 hK, FabL.s0 hF, FabL.p0 hF, FabL.p1 hF, FabL.s1 hF, FabL.s2 hF, FabL.r hF, FabL.rs hF, FabL.rl hF, FabL.ls hF, FabL.l5 hF, FabL.l6 hF, FabL.l7 hF, FabL.l8 hF, FabL.q2 hF, FabL.q3 hF, FabL.q4 hF, FabL.q5 hF, FabL.tp hF, FabL.ts hF, FabL.td hF, FabL.tw hF, FabL.ws hF, FabL.w4 hF, FabL.w5 hF, FabL.w6 hF, FabL.w7 hF, FabL.w8 hF, FabL.v1 hF, FabL.v2 hF, FabL.v3 hF, FabL.v4 hF, FabL.v5 hF, w, bI_f, Option.bind_some, Sum.elim_inl, Sum.elim_inr, reduceIte, if_true, if_false, ite_true, ite_false, not_true_eq_false, not_false_eq_true, or_true, true_or, or_false, false_or, and_true, true_and, and_false, false_and, eq_self, ne_eq, Nat.reduceAdd, Nat.reduceMul, Nat.le_refl, ite_self, Nat.reduceEqDiff, Nat.reduceLeDiff, Nat.reduceLT, L_0, L_1, L_2, L_3, L_4, L_5, L_6, L_7, L_8, L_9, L_10, L_11, L_12, L_13, L_14, L_15, L_16, L_24, L_31, L_40, L_48, L_49, L_50, L_51, L_60, L_72, L_99, L_127, L_132, L_172, L_412, L_428, L_429, L_430, L_431, L_432, L_433, L_1000, nI_add, nI_mul, nI_leI, nI_ltI, nI_eq, m_cl, mInb_iff, nI_ng, ng_nI, ng_ng, nI_lt_ng, ng_lt_nI, nI_le_ng, ng_le_nI, show ¬ 10 ≤ i by omega, hi]
        · unfold shN; rw [if_neg e]; exact hCν) (fun ν hJ => by
      simp (disch := omega) only [s102L9_25, s102L9, s102, Option.bind_some, Sum.elim_inl, Sum.elim_inr, reduceIte, if_true, if_false, ite_true, ite_false, not_true_eq_false, not_false_eq_true, or_true, true_or, or_false, false_or, and_true, true_and, and_false, false_and, eq_self, ne_eq, Nat.reduceAdd, Nat.reduceMul, Nat.le_refl, ite_self, Nat.reduceEqDiff, Nat.reduceLeDiff, Nat.reduceLT, L_0, L_1, L_2, L_3, L_4, L_5, L_6, L_7, L_8, L_9, L_10, L_11, L_12, L_13, L_14, L_15, L_16, L_24, L_31, L_40, L_48, L_49, L_50, L_51, L_60, L_72, L_99, L_127, L_132, L_172, L_412, L_428, L_429, L_430, L_431, L_432, L_433, L_1000, nI_add, nI_mul, nI_leI, nI_ltI, nI_eq, m_cl, mInb_iff, nI_ng, ng_nI, ng_ng, nI_lt_ng, ng_lt_nI, nI_le_ng, ng_le_nI]) ⟨FrF.refl _ _, hC⟩ (n := 1000) (by omega)
    have hA := shN_wft (p := fun t => us A t r 0) ht 10
    have hB := shN_wfu (p := fun t => us A t r 0) hu 10
    have hp1 : aR (shN (fun t => us A t r 0) 10 A) r 0 = 1 := by rw [sR]; exact hp
    obtain ⟨μ2, e2, g2, f2⟩ := j26 g1 hA h1 hr hp1
    have onE : ∀ a b, onb (shN (fun t => us A t r 0) 10 A) a b = onb A a b := fun a b => onb_cg (s3 10)
    have pE : ∀ a, pD (shN (fun t => us A t r 0) 10 A) r a = pD A r a := fun a => by unfold pD; rw [onE, sR]
    have bE : belN (shN (fun t => us A t r 0) 10 A) r = belN A r := by unfold belN; simp only [sR, onE]
    have hA2 := wft_de hA h1
    have hB2 : WFu (deN (pD (shN (fun t => us A t r 0) 10 A) r) 8 (shN (fun t => us A t r 0) 10 A)) := wfu_de hB (fun a ha ho => by
      have z := (shN_eq (p := fun t => us A t r 0) (A := A) 10).2.2.1
      rw [z] at ho
      by_cases y : us A a r 0 = true
      · rw [if_pos ⟨rfl, ha, y⟩] at ho; omega
      · rw [if_neg (fun w => y w.2.2)] at ho
        rw [onE, z, if_neg (by omega)]; exact us_fst ho y)
    obtain ⟨μ3, e3, g3, f3⟩ := j34 g2 hA2 hB2
    obtain ⟨w1, w2⟩ := dN_wf (n := 10) (o := -nI 1) hA2 hB2
    have hf := (f1.trans f2).trans f3.F
    have hM3 := hf.C.rs hM
    have hR3 := hM3.1
    -- the reference
    obtain ⟨c, hc, q1, q2⟩ := k186s hM3 ht hr (nI 1 + nI (belN A r))
    have hle : ∀ n, n ≤ 10 → sumN (fun t => if us A t r 0 = true then lostN A t else 0) n ≤ n * 246 := fun n hn => by
      have := sumN_le (g := fun t => if us A t r 0 = true then lostN A t else 0) (h := fun _ => 246) (n := n) (fun i hi => by
        show (if us A i r 0 = true then lostN A i else 0) ≤ 246
        by_cases z : us A i r 0 = true
        · rw [if_pos z]; exact lostN_le hu (by omega) (us_iff.mp z).1
        · rw [if_neg z]; omega)
      rw [sumN_const] at this
      exact this
    obtain ⟨o, q3, ν1, rfl, m1, fr1⟩ := mLoop_inv0 (b := s186L44 200 (nI r) (nI 1 + nI (belN A r)) (nI c)) (fun i s => s.1 = nI (sumN (fun t => if us A t r 0 = true then lostN A t else 0) i) ∧ s.2.1 = nI i ∧ RS s.2.2 (shN (fun t => us A t r 0) i A) ∧ Fr 201 202 μ3 s.2.2) 10 (fun o => ∃ ν, o = .inl (nI (sumN (fun t => if us A t r 0 = true then lostN A t else 0) 10), ν) ∧ RS ν (shN (fun t => us A t r 0) 10 A) ∧ Fr 201 202 μ3 ν) (fun i s hi hI => by
      obtain ⟨x, y, ν⟩ := s
      obtain ⟨i1, i2, i3, i4⟩ := hI
      simp only at i1 i2 i3 i4
      subst i1 i2
      left
      have hR := i3.1
      have hAi := shN_wft (p := fun t => us A t r 0) ht i
      have hBi := shN_wfu (p := fun t => us A t r 0) hu i
      have z0 := k159 i3 hi (k := 0) (by omega)
      have z2 := k159 i3 hi (k := 2) (by omega)
      rw [shN_self] at z0 z2
      have hle1 := hu.le1 hi
      have sA : ∀ b : Ab, shN (fun t => us A t r 0) (i + 1) A = b ↔ (if us A i r 0 = true then shutA (shN (fun t => us A t r 0) i A) i else shN (fun t => us A t r 0) i A) = b := fun b => Iff.rfl
      have sS : sumN (fun t => if us A t r 0 = true then lostN A t else 0) (i + 1) = sumN (fun t => if us A t r 0 = true then lostN A t else 0) i + (if us A i r 0 = true then lostN A i else 0) := rfl
      by_cases ho : aT A i 0 = 1
      · obtain ⟨o1, o2, o3, o4, -⟩ := hu.o hi ho
        have z3 := k153 (r := r) (d := aT A i 2) i3 hAi hr o3 (by rw [sR]; exact o4)
        rw [onb_cg (A := A) (s3 i)] at z3
        by_cases e : us A i r 0 = true
        · have eo := (us_iff.mp e).2.1
          rw [eo] at z3
          obtain ⟨ν', d1, d2, d3⟩ := k172 i3 hi
          rw [shN_lost] at d1
          refine ⟨(nI (sumN (fun t => if us A t r 0 = true then lostN A t else 0) i + lostN A i), nI (i + 1), ν'), ?_, by rw [sS, if_pos e], rfl, ?_, i4.trans d3⟩
          · simp (disch := omega) only [s186L16_36, s186L16_35, s186L16, s186L44_67, s186L44_66, s186L44, s186L73_88, s186L73, s186_97, s186, RefL.s hR, RefL.r0 hR, RefL.r1 hR, RefL.r2 hR, RefL.r3 hR, RefL.r4 hR, RefL.r5 hR, RefL.r7 hR, RefL.r8 hR, RefL.r9 hR, RefL.r10 hR, RefL.r12 hR, RefL.r13 hR, RefL.r14 hR, RefL.r15 hR, RefL.r16 hR, RefL.r17 hR, RefL.r18 hR, RefL.r19 hR, RefL.a0 hR, RefL.a1 hR, RefL.a2 hR, RefL.a3 hR, RefL.a4 hR, RefL.a5 hR, RefL.a7 hR, RefL.a8 hR, RefL.a9 hR, RefL.a10 hR, RefL.a12 hR, RefL.a13 hR, RefL.a14 hR, RefL.a15 hR, RefL.a16 hR, RefL.a17 hR, RefL.a18 hR, RefL.a19 hR, z0, z2, z3, ho, d1, bI_t, Option.bind_some, Sum.elim_inl, Sum.elim_inr, reduceIte, if_true, if_false, ite_true, ite_false, not_true_eq_false, not_false_eq_true, or_true, true_or, or_false, false_or, and_true, true_and, and_false, false_and, eq_self, ne_eq, Nat.reduceAdd, Nat.reduceMul, Nat.le_refl, ite_self, Nat.reduceEqDiff, Nat.reduceLeDiff, Nat.reduceLT, L_0, L_1, L_2, L_3, L_4, L_5, L_6, L_7, L_8, L_9, L_10, L_11, L_12, L_13, L_14, L_15, L_16, L_24, L_31, L_40, L_48, L_49, L_50, L_51, L_60, L_72, L_99, L_127, L_132, L_172, L_412, L_428, L_429, L_430, L_431, L_432, L_433, L_1000, nI_add, nI_mul, nI_leI, nI_ltI, nI_eq, m_cl, mInb_iff, nI_ng, ng_nI, ng_ng, nI_lt_ng, ng_lt_nI, nI_le_ng, ng_le_nI, show ¬ 10 ≤ i by omega]
          · show RS ν' (shN _ (i + 1) A)
            unfold shN; rw [if_pos e]; exact d2
        · have eo := us_fst ho e
          rw [eo] at z3
          refine ⟨(nI (sumN (fun t => if us A t r 0 = true then lostN A t else 0) i), nI (i + 1), ν), ?_, by rw [sS, if_neg e]; rfl, rfl, ?_, i4⟩
          · simp (disch := omega) only [s186L16_36, s186L16_35, s186L16, s186L44_67, s186L44_66, s186L44, s186L73_88, s186L73, s186_97, s186, RefL.s hR, RefL.r0 hR, RefL.r1 hR, RefL.r2 hR, RefL.r3 hR, RefL.r4 hR, RefL.r5 hR, RefL.r7 hR, RefL.r8 hR, RefL.r9 hR, RefL.r10 hR, RefL.r12 hR, RefL.r13 hR, RefL.r14 hR, RefL.r15 hR, RefL.r16 hR, RefL.r17 hR, RefL.r18 hR, RefL.r19 hR, RefL.a0 hR, RefL.a1 hR, RefL.a2 hR, RefL.a3 hR, RefL.a4 hR, RefL.a5 hR, RefL.a7 hR, RefL.a8 hR, RefL.a9 hR, RefL.a10 hR, RefL.a12 hR, RefL.a13 hR, RefL.a14 hR, RefL.a15 hR, RefL.a16 hR, RefL.a17 hR, RefL.a18 hR, RefL.a19 hR, z0, z2, z3, ho, bI_f, Option.bind_some, Sum.elim_inl, Sum.elim_inr, reduceIte, if_true, if_false, ite_true, ite_false, not_true_eq_false, not_false_eq_true, or_true, true_or, or_false, false_or, and_true, true_and, and_false, false_and, eq_self, ne_eq, Nat.reduceAdd, Nat.reduceMul, Nat.le_refl, ite_self, Nat.reduceEqDiff, Nat.reduceLeDiff, Nat.reduceLT, L_0, L_1, L_2, L_3, L_4, L_5, L_6, L_7, L_8, L_9, L_10, L_11, L_12, L_13, L_14, L_15, L_16, L_24, L_31, L_40, L_48, L_49, L_50, L_51, L_60, L_72, L_99, L_127, L_132, L_172, L_412, L_428, L_429, L_430, L_431, L_432, L_433, L_1000, nI_add, nI_mul, nI_leI, nI_ltI, nI_eq, m_cl, mInb_iff, nI_ng, ng_nI, ng_ng, nI_lt_ng, ng_lt_nI, nI_le_ng, ng_le_nI, show ¬ 10 ≤ i by omega, Nat.add_zero]
          · show RS ν (shN _ (i + 1) A)
            unfold shN; rw [if_neg e]; exact i3
      · have e : ¬ us A i r 0 = true := fun z => ho (us_iff.mp z).1
        refine ⟨(nI (sumN (fun t => if us A t r 0 = true then lostN A t else 0) i), nI (i + 1), ν), ?_, by rw [sS, if_neg e]; rfl, rfl, ?_, i4⟩
        · simp (disch := omega) only [s186L16_36, s186L16_35, s186L16, s186L44_67, s186L44_66, s186L44, s186L73_88, s186L73, s186_97, s186, RefL.s hR, RefL.r0 hR, RefL.r1 hR, RefL.r2 hR, RefL.r3 hR, RefL.r4 hR, RefL.r5 hR, RefL.r7 hR, RefL.r8 hR, RefL.r9 hR, RefL.r10 hR, RefL.r12 hR, RefL.r13 hR, RefL.r14 hR, RefL.r15 hR, RefL.r16 hR, RefL.r17 hR, RefL.r18 hR, RefL.r19 hR, RefL.a0 hR, RefL.a1 hR, RefL.a2 hR, RefL.a3 hR, RefL.a4 hR, RefL.a5 hR, RefL.a7 hR, RefL.a8 hR, RefL.a9 hR, RefL.a10 hR, RefL.a12 hR, RefL.a13 hR, RefL.a14 hR, RefL.a15 hR, RefL.a16 hR, RefL.a17 hR, RefL.a18 hR, RefL.a19 hR, z0, ho, Option.bind_some, Sum.elim_inl, Sum.elim_inr, reduceIte, if_true, if_false, ite_true, ite_false, not_true_eq_false, not_false_eq_true, or_true, true_or, or_false, false_or, and_true, true_and, and_false, false_and, eq_self, ne_eq, Nat.reduceAdd, Nat.reduceMul, Nat.le_refl, ite_self, Nat.reduceEqDiff, Nat.reduceLeDiff, Nat.reduceLT, L_0, L_1, L_2, L_3, L_4, L_5, L_6, L_7, L_8, L_9, L_10, L_11, L_12, L_13, L_14, L_15, L_16, L_24, L_31, L_40, L_48, L_49, L_50, L_51, L_60, L_72, L_99, L_127, L_132, L_172, L_412, L_428, L_429, L_430, L_431, L_432, L_433, L_1000, nI_add, nI_mul, nI_leI, nI_ltI, nI_eq, m_cl, mInb_iff, nI_ng, ng_nI, ng_ng, nI_lt_ng, ng_lt_nI, nI_le_ng, ng_le_nI, show ¬ 10 ≤ i by omega, Nat.add_zero]
        · show RS ν (shN _ (i + 1) A)
          unfold shN; rw [if_neg e]; exact i3) (fun s hI => by
      obtain ⟨x, y, ν⟩ := s
      obtain ⟨i1, i2, i3, i4⟩ := hI
      simp only at i1 i2 i3 i4
      subst i1 i2
      refine ⟨_, ?_, ν, rfl, i3, i4⟩
      simp (disch := omega) only [s186L16_36, s186L16_35, s186L16, s186L44_67, s186L44_66, s186L44, s186L73_88, s186L73, s186_97, s186, Option.bind_some, Sum.elim_inl, Sum.elim_inr, reduceIte, if_true, if_false, ite_true, ite_false, not_true_eq_false, not_false_eq_true, or_true, true_or, or_false, false_or, and_true, true_and, and_false, false_and, eq_self, ne_eq, Nat.reduceAdd, Nat.reduceMul, Nat.le_refl, ite_self, Nat.reduceEqDiff, Nat.reduceLeDiff, Nat.reduceLT, L_0, L_1, L_2, L_3, L_4, L_5, L_6, L_7, L_8, L_9, L_10, L_11, L_12, L_13, L_14, L_15, L_16, L_24, L_31, L_40, L_48, L_49, L_50, L_51, L_60, L_72, L_99, L_127, L_132, L_172, L_412, L_428, L_429, L_430, L_431, L_432, L_433, L_1000, nI_add, nI_mul, nI_leI, nI_ltI, nI_eq, m_cl, mInb_iff, nI_ng, ng_nI, ng_ng, nI_lt_ng, ng_lt_nI, nI_le_ng, ng_le_nI]) (s := (nI 0, nI 0, μ3)) ⟨rfl, rfl, hM3, Fr.refl _ _ _⟩ (n := 1000) (by omega)
    have hT := hle 10 (by omega)
    generalize hlost : sumN (fun t => if us A t r 0 = true then lostN A t else 0) 10 = lost at *
    obtain ⟨ν2, q4, m2, fr2⟩ := mLoop_mem (b := s186L73 200 (nI 1 + nI (belN A r)) (nI c) (nI lost)) (μ := ν1) (fun i ν => RS ν (deN (pD (shN (fun t => us A t r 0) 10 A) r) (1 + i) (shN (fun t => us A t r 0) 10 A)) ∧ Fr 201 202 ν1 ν) 1 7 (fun i ν hi hJ => by
      obtain ⟨i3, i4⟩ := hJ
      have hR := i3.1
      have ba := bits8_at ⟨c, hc⟩ ⟨1 + i, by omega⟩
      simp only at ba
      rw [q2 (1 + i) (by omega) (by omega), ← pE] at ba
      have e3 : ∀ B : Ab, deN (pD (shN (fun t => us A t r 0) 10 A) r) (1 + (i + 1)) B = if pD (shN (fun t => us A t r 0) 10 A) r (1 + i) = true then setR (deN (pD (shN (fun t => us A t r 0) 10 A) r) (1 + i) B) (1 + i) 0 0 else deN (pD (shN (fun t => us A t r 0) 10 A) r) (1 + i) B := fun B => by
        rw [show 1 + (i + 1) = (1 + i) + 1 by omega]; rfl
      by_cases e : pD (shN (fun t => us A t r 0) 10 A) r (1 + i) = true
      · have b1 := ba.mpr e
        have d1 := k149 (v := 0) i3 (r := 1 + i) (by omega) (k := 0) (by omega)
        refine ⟨mUI ν 201 (9 * (1 + i) + 0) (nI 0), ?_, ?_, i4.trans (Fr_UI _ (by omega) (by omega) _ _)⟩
        · simp (disch := omega) only [s186L16_36, s186L16_35, s186L16, s186L44_67, s186L44_66, s186L44, s186L73_88, s186L73, s186_97, s186, RefL.s hR, RefL.r0 hR, RefL.r1 hR, RefL.r2 hR, RefL.r3 hR, RefL.r4 hR, RefL.r5 hR, RefL.r7 hR, RefL.r8 hR, RefL.r9 hR, RefL.r10 hR, RefL.r12 hR, RefL.r13 hR, RefL.r14 hR, RefL.r15 hR, RefL.r16 hR, RefL.r17 hR, RefL.r18 hR, RefL.r19 hR, RefL.a0 hR, RefL.a1 hR, RefL.a2 hR, RefL.a3 hR, RefL.a4 hR, RefL.a5 hR, RefL.a7 hR, RefL.a8 hR, RefL.a9 hR, RefL.a10 hR, RefL.a12 hR, RefL.a13 hR, RefL.a14 hR, RefL.a15 hR, RefL.a16 hR, RefL.a17 hR, RefL.a18 hR, RefL.a19 hR, b1, d1, Option.bind_some, Sum.elim_inl, Sum.elim_inr, reduceIte, if_true, if_false, ite_true, ite_false, not_true_eq_false, not_false_eq_true, or_true, true_or, or_false, false_or, and_true, true_and, and_false, false_and, eq_self, ne_eq, Nat.reduceAdd, Nat.reduceMul, Nat.le_refl, ite_self, Nat.reduceEqDiff, Nat.reduceLeDiff, Nat.reduceLT, L_0, L_1, L_2, L_3, L_4, L_5, L_6, L_7, L_8, L_9, L_10, L_11, L_12, L_13, L_14, L_15, L_16, L_24, L_31, L_40, L_48, L_49, L_50, L_51, L_60, L_72, L_99, L_127, L_132, L_172, L_412, L_428, L_429, L_430, L_431, L_432, L_433, L_1000, nI_add, nI_mul, nI_leI, nI_ltI, nI_eq, m_cl, mInb_iff, nI_ng, ng_nI, ng_ng, nI_lt_ng, ng_lt_nI, nI_le_ng, ng_le_nI, show ¬ 8 ≤ 1 + i by omega]
        · rw [e3, if_pos e]; exact RS.uR (k := 0) i3 (by omega) (by omega)
      · have b1 : ¬ ((nI c >>> (nI (1 + i) &&& nI 31)) &&& nI 1 = nI 1) := fun z => e (ba.mp z)
        refine ⟨ν, ?_, ?_, i4⟩
        · simp (disch := omega) only [s186L16_36, s186L16_35, s186L16, s186L44_67, s186L44_66, s186L44, s186L73_88, s186L73, s186_97, s186, b1, Option.bind_some, Sum.elim_inl, Sum.elim_inr, reduceIte, if_true, if_false, ite_true, ite_false, not_true_eq_false, not_false_eq_true, or_true, true_or, or_false, false_or, and_true, true_and, and_false, false_and, eq_self, ne_eq, Nat.reduceAdd, Nat.reduceMul, Nat.le_refl, ite_self, Nat.reduceEqDiff, Nat.reduceLeDiff, Nat.reduceLT, L_0, L_1, L_2, L_3, L_4, L_5, L_6, L_7, L_8, L_9, L_10, L_11, L_12, L_13, L_14, L_15, L_16, L_24, L_31, L_40, L_48, L_49, L_50, L_51, L_60, L_72, L_99, L_127, L_132, L_172, L_412, L_428, L_429, L_430, L_431, L_432, L_433, L_1000, nI_add, nI_mul, nI_leI, nI_ltI, nI_eq, m_cl, mInb_iff, nI_ng, ng_nI, ng_ng, nI_lt_ng, ng_lt_nI, nI_le_ng, ng_le_nI, show ¬ 8 ≤ 1 + i by omega]
        · rw [e3, if_neg e]; exact i3) (fun ν hJ => by
      simp (disch := omega) only [s186L16_36, s186L16_35, s186L16, s186L44_67, s186L44_66, s186L44, s186L73_88, s186L73, s186_97, s186, Option.bind_some, Sum.elim_inl, Sum.elim_inr, reduceIte, if_true, if_false, ite_true, ite_false, not_true_eq_false, not_false_eq_true, or_true, true_or, or_false, false_or, and_true, true_and, and_false, false_and, eq_self, ne_eq, Nat.reduceAdd, Nat.reduceMul, Nat.le_refl, ite_self, Nat.reduceEqDiff, Nat.reduceLeDiff, Nat.reduceLT, L_0, L_1, L_2, L_3, L_4, L_5, L_6, L_7, L_8, L_9, L_10, L_11, L_12, L_13, L_14, L_15, L_16, L_24, L_31, L_40, L_48, L_49, L_50, L_51, L_60, L_72, L_99, L_127, L_132, L_172, L_412, L_428, L_429, L_430, L_431, L_432, L_433, L_1000, nI_add, nI_mul, nI_leI, nI_ltI, nI_eq, m_cl, mInb_iff, nI_ng, ng_nI, ng_ng, nI_lt_ng, ng_lt_nI, nI_le_ng, ng_le_nI]) ⟨by
        show RS ν1 (if pD (shN (fun t => us A t r 0) 10 A) r 0 = true then _ else _)
        rw [pD_0]; exact m1, Fr.refl _ _ _⟩ (n := 1000) (by omega)
    obtain ⟨ν3, q5, m3, fr3⟩ := k171 m2 hA2 hB2
    have hK1 := hK.fr f1.1
    have hK2 := hK.fr (f1.trans f2).1
    refine ⟨nI (belN A r + 1), μ3, ν3, _, ?_, hf.C, g3, ?_, ?_, Fr.R ((fr1.trans fr2).trans fr3) (by omega), m3, w1, w2⟩
    · rw [bE] at e2
      unfold s102
      refine iteT (by rw [ClsL.s hK]) (iteT (by rw [ClsL.p1 hK, FabL.s0 hF]) (bindS (v := nI 1) (by rw [ClsL.p1 hK]; exact l1) (iteT (by decide) (bindS e1 ?_))))
      simp only [Sum.elim_inl]
      refine iteT (by rw [ClsL.s hK1]) (iteT (by rw [ClsL.p1 hK1, FabL.s0 g1.1]) (bindS (by rw [ClsL.p1 hK1]; exact e2) ?_))
      exact iteT (by rw [ClsL.s hK2]) (iteT (by rw [ClsL.p1 hK2, FabL.s0 g2.1]) (bindS (by rw [ClsL.p1 hK2]; exact e3) rfl))
    · refine SZ.dst (f := 11) ?_ f3.F
      intro a d k ha ho hd hk
      have z := (shN_eq (p := fun t => us A t r 0) (A := A) 10).2.2.1
      have z1 := (deN_eq (p := pD (shN (fun t => us A t r 0) 10 A) r) (A := shN (fun t => us A t r 0) 10 A) 8).1
      have z2 : ∀ a k, aT (deN (pD (shN (fun t => us A t r 0) 10 A) r) 8 (shN (fun t => us A t r 0) 10 A)) a k = aT (shN (fun t => us A t r 0) 10 A) a k := fun a k => congrArg (fun z => z.1 a k) z1
      rw [z2, z] at ho
      have ho' : aT A a 0 = 1 := by
        by_cases y : us A a r 0 = true
        · rw [if_pos ⟨rfl, ha, y⟩] at ho; omega
        · rw [if_neg (fun w => y w.2.2)] at ho; exact ho
      rw [wN_cg (A := A) (fun b => by rw [deN_k 8 b 3 (by omega), sR]) (by rw [z2, z, if_neg (by omega)]) (by rw [z2, z, if_neg (by omega)])] at hk
      rw [(f1.trans f2).2.1 a d ha hd]
      exact hZ a d k ha ho' hd hk
    · have l3 := lnk2 hM3 h1 hr hp
      unfold s186
      refine iteT (by rw [RefL.s hR3]) (bindS l3 (iteT (by decide) (bindS (k185 hM3 ht hr) (bindS q1 ?_))))
      simp only [Sum.elim_inl]
      refine bindS q3 ?_
      simp only [Sum.elim_inl]
      refine bindS q4 ?_
      simp only [Sum.elim_inl]
      refine iteT (by rw [RefL.s m2.1]) (bindS q5 (iteT ?_ ?_))
      · show nI 0 ≤ nI lost
        rw [nI_leI (by omega) (by omega)]; omega
      · unfold s186_97
        show some (nI 1 + nI (belN A r), ν3) = _
        rw [nI_add, Nat.add_comm]
  · refine ⟨-nI 1, μ, μ, A, ?_, FrC.refl _, hC, hZ, ?_, FrR.refl _, hM, ht, hu⟩
    · unfold s102
      exact iteT (by rw [ClsL.s hK]) (iteT (by rw [ClsL.p1 hK, FabL.s0 hF]) (bindS (v := nI 0) (by rw [ClsL.p1 hK]; exact l1) (iteF (by decide) rfl)))
    · unfold s186
      exact iteT (by rw [RefL.s hR]) (bindS l2 (iteF (by decide) rfl))
end UP
