/-! gain -/
theorem bindS {α β : Type} {a : Option α} {v : α} {g : α → Option β} {r : Option β} (h : a = some v) (h2 : g v = r) : a.bind g = r := by rw [h]; exact h2
theorem iteT {c : Prop} [Decidable c] {α : Type} {x y r : α} (h : c) (h2 : x = r) : (if c then x else y) = r := by rw [if_pos h]; exact h2
theorem iteF {c : Prop} [Decidable c] {α : Type} {x y r : α} (h : ¬ c) (h2 : y = r) : (if c then x else y) = r := by rw [if_neg h]; exact h2
section GA
variable {μ μ' : mM} {A A' : Ab} {f r k t d h q v : Nat} {L : Nat} {xs : Nat → Int32}
/-- what is granted in all -/
def grN (A : Ab) : Nat := sumN (fun a => if aT A a 0 = 1 ∧ aT A a 1 = 0 then aT A a 4 else 0) 10
theorem k230 (hM : RS μ A) (hu : WFu A) : s230 μ 200 = some (nI (grN A)) := by
  have hR := hM.1
  have e := mLoop_rp (b := s230L4 μ 200) (fun i x => (x, nI i)) (fun t x => x + nI (if aT A t 0 = 1 ∧ aT A t 1 = 0 then aT A t 4 else 0)) 10 (a := nI 0) (o := fun x => .inl x) (fun i x hi => by
    have h1 := hu.le1 hi
    by_cases e : aT A i 0 = 1
    · obtain ⟨o1, -⟩ := hu.o hi e
      by_cases e2 : aT A i 1 = 0
      · simp (disch := omega) only [s230L4_25, s230L4_24, s230L4, s230, RefL.s hR, RefL.r0 hR, RefL.r1 hR, RefL.r2 hR, RefL.r3 hR, RefL.r4 hR, RefL.r5 hR, RefL.r7 hR, RefL.r8 hR, RefL.r9 hR, RefL.r10 hR, RefL.r12 hR, RefL.r13 hR, RefL.r14 hR, RefL.r15 hR, RefL.r16 hR, RefL.r17 hR, RefL.r18 hR, RefL.r19 hR, RefL.a0 hR, RefL.a1 hR, RefL.a2 hR, RefL.a3 hR, RefL.a4 hR, RefL.a5 hR, RefL.a7 hR, RefL.a8 hR, RefL.a9 hR, RefL.a10 hR, RefL.a12 hR, RefL.a13 hR, RefL.a14 hR, RefL.a15 hR, RefL.a16 hR, RefL.a17 hR, RefL.a18 hR, RefL.a19 hR, k159 hM, Option.bind_some, Sum.elim_inl, Sum.elim_inr, reduceIte, if_true, if_false, ite_true, ite_false, not_true_eq_false, not_false_eq_true, or_true, true_or, or_false, false_or, and_true, true_and, and_false, false_and, eq_self, ne_eq, Nat.reduceAdd, Nat.reduceMul, Nat.le_refl, ite_self, Nat.reduceEqDiff, Nat.reduceLeDiff, Nat.reduceLT, L_0, L_1, L_2, L_3, L_4, L_5, L_6, L_7, L_8, L_9, L_10, L_11, L_12, L_13, L_14, L_15, L_16, L_24, L_31, L_40, L_48, L_49, L_50, L_51, L_60, L_72, L_99, L_127, L_132, L_172, L_412, L_428, L_429, L_430, L_431, L_432, L_433, L_1000, nI_add, nI_mul, nI_leI, nI_ltI, nI_eq, m_cl, mInb_iff, nI_ng, ng_nI, ng_ng, nI_lt_ng, ng_lt_nI, nI_le_ng, ng_le_nI, e, e2, show ¬ 10 ≤ i by omega]
      · simp (disch := omega) only [s230L4_25, s230L4_24, s230L4, s230, RefL.s hR, RefL.r0 hR, RefL.r1 hR, RefL.r2 hR, RefL.r3 hR, RefL.r4 hR, RefL.r5 hR, RefL.r7 hR, RefL.r8 hR, RefL.r9 hR, RefL.r10 hR, RefL.r12 hR, RefL.r13 hR, RefL.r14 hR, RefL.r15 hR, RefL.r16 hR, RefL.r17 hR, RefL.r18 hR, RefL.r19 hR, RefL.a0 hR, RefL.a1 hR, RefL.a2 hR, RefL.a3 hR, RefL.a4 hR, RefL.a5 hR, RefL.a7 hR, RefL.a8 hR, RefL.a9 hR, RefL.a10 hR, RefL.a12 hR, RefL.a13 hR, RefL.a14 hR, RefL.a15 hR, RefL.a16 hR, RefL.a17 hR, RefL.a18 hR, RefL.a19 hR, k159 hM, Option.bind_some, Sum.elim_inl, Sum.elim_inr, reduceIte, if_true, if_false, ite_true, ite_false, not_true_eq_false, not_false_eq_true, or_true, true_or, or_false, false_or, and_true, true_and, and_false, false_and, eq_self, ne_eq, Nat.reduceAdd, Nat.reduceMul, Nat.le_refl, ite_self, Nat.reduceEqDiff, Nat.reduceLeDiff, Nat.reduceLT, L_0, L_1, L_2, L_3, L_4, L_5, L_6, L_7, L_8, L_9, L_10, L_11, L_12, L_13, L_14, L_15, L_16, L_24, L_31, L_40, L_48, L_49, L_50, L_51, L_60, L_72, L_99, L_127, L_132, L_172, L_412, L_428, L_429, L_430, L_431, L_432, L_433, L_1000, nI_add, nI_mul, nI_leI, nI_ltI, nI_eq, m_cl, mInb_iff, nI_ng, ng_nI, ng_ng, nI_lt_ng, ng_lt_nI, nI_le_ng, ng_le_nI, e, e2, show ¬ 10 ≤ i by omega]
    · simp (disch := omega) only [s230L4_25, s230L4_24, s230L4, s230, RefL.s hR, RefL.r0 hR, RefL.r1 hR, RefL.r2 hR, RefL.r3 hR, RefL.r4 hR, RefL.r5 hR, RefL.r7 hR, RefL.r8 hR, RefL.r9 hR, RefL.r10 hR, RefL.r12 hR, RefL.r13 hR, RefL.r14 hR, RefL.r15 hR, RefL.r16 hR, RefL.r17 hR, RefL.r18 hR, RefL.r19 hR, RefL.a0 hR, RefL.a1 hR, RefL.a2 hR, RefL.a3 hR, RefL.a4 hR, RefL.a5 hR, RefL.a7 hR, RefL.a8 hR, RefL.a9 hR, RefL.a10 hR, RefL.a12 hR, RefL.a13 hR, RefL.a14 hR, RefL.a15 hR, RefL.a16 hR, RefL.a17 hR, RefL.a18 hR, RefL.a19 hR, k159 hM, Option.bind_some, Sum.elim_inl, Sum.elim_inr, reduceIte, if_true, if_false, ite_true, ite_false, not_true_eq_false, not_false_eq_true, or_true, true_or, or_false, false_or, and_true, true_and, and_false, false_and, eq_self, ne_eq, Nat.reduceAdd, Nat.reduceMul, Nat.le_refl, ite_self, Nat.reduceEqDiff, Nat.reduceLeDiff, Nat.reduceLT, L_0, L_1, L_2, L_3, L_4, L_5, L_6, L_7, L_8, L_9, L_10, L_11, L_12, L_13, L_14, L_15, L_16, L_24, L_31, L_40, L_48, L_49, L_50, L_51, L_60, L_72, L_99, L_127, L_132, L_172, L_412, L_428, L_429, L_430, L_431, L_432, L_433, L_1000, nI_add, nI_mul, nI_leI, nI_ltI, nI_eq, m_cl, mInb_iff, nI_ng, ng_nI, ng_ng, nI_lt_ng, ng_lt_nI, nI_le_ng, ng_le_nI, e, show ¬ 10 ≤ i by omega]) (fun x => by
    simp (disch := omega) only [s230L4, Option.bind_some, Sum.elim_inl, Sum.elim_inr, reduceIte, if_true, if_false, ite_true, ite_false, not_true_eq_false, not_false_eq_true, or_true, true_or, or_false, false_or, and_true, true_and, and_false, false_and, eq_self, ne_eq, Nat.reduceAdd, Nat.reduceMul, Nat.le_refl, ite_self, Nat.reduceEqDiff, Nat.reduceLeDiff, Nat.reduceLT, L_0, L_1, L_2, L_3, L_4, L_5, L_6, L_7, L_8, L_9, L_10, L_11, L_12, L_13, L_14, L_15, L_16, L_24, L_31, L_40, L_48, L_49, L_50, L_51, L_60, L_72, L_99, L_127, L_132, L_172, L_412, L_428, L_429, L_430, L_431, L_432, L_433, L_1000, nI_add, nI_mul, nI_leI, nI_ltI, nI_eq, m_cl, mInb_iff, nI_ng, ng_nI, ng_ng, nI_lt_ng, ng_lt_nI, nI_le_ng, ng_le_nI]) (n := 1000) (by omega)
  rw [rp_sum0 (g := fun t => if aT A t 0 = 1 ∧ aT A t 1 = 0 then aT A t 4 else 0)] at e
  simp (disch := omega) only [s230, Option.bind_some, Sum.elim_inl, Sum.elim_inr, reduceIte, if_true, if_false, ite_true, ite_false, not_true_eq_false, not_false_eq_true, or_true, true_or, or_false, false_or, and_true, true_and, and_false, false_and, eq_self, ne_eq, Nat.reduceAdd, Nat.reduceMul, Nat.le_refl, ite_self, Nat.reduceEqDiff, Nat.reduceLeDiff, Nat.reduceLT, L_0, L_1, L_2, L_3, L_4, L_5, L_6, L_7, L_8, L_9, L_10, L_11, L_12, L_13, L_14, L_15, L_16, L_24, L_31, L_40, L_48, L_49, L_50, L_51, L_60, L_72, L_99, L_127, L_132, L_172, L_412, L_428, L_429, L_430, L_431, L_432, L_433, L_1000, nI_add, nI_mul, nI_leI, nI_ltI, nI_eq, m_cl, mInb_iff, nI_ng, ng_nI, ng_ng, nI_lt_ng, ng_lt_nI, nI_le_ng, ng_le_nI]
  rw [e]; rfl
theorem RepM.cg {I : Nat → Int32} {F : Nat → UInt32} (h : RepM I F A) (h1 : A'.1 = A.1) (h2 : A'.2.2 = A.2.2) (h3 : ∀ a k, a < 10 → k < 6 → aT A' a k = aT A a k) : RepM I F A' := by
  obtain ⟨R', T', X'⟩ := A'
  obtain ⟨R, T, X⟩ := A
  simp only at h1 h2
  subst h1 h2
  exact ⟨h.1, fun a k ha hk => by rw [h3 a k ha hk]; exact h.2.1 a k ha hk, h.2.2⟩
theorem subs4 (a b c d : Int32) : a - b + (c - d) = a + c - (b + d) := by
  simp only [Int32.sub_eq_add_neg, Int32.neg_add]
  ac_rfl
theorem sub0 (a : Int32) : a - a = nI 0 := Int32.sub_self a
theorem op25 : Op25 (Inv L xs) := fun x => CI_op fun μ A hS hZ => by
  obtain ⟨hK, hC, hM, ht, hu⟩ := hS
  have hR := hM.1
  have hF := hC.1
  rcases tun hC hM hu x with ⟨t, rfl, htt, ho, l1, l2⟩ | ⟨l1, l2⟩
  · have hw := WN.of ht hu
    have tl : ∀ a, a < 10 → tu 11 a < 199 := fun a ha => by unfold tu; omega
    have tj : ∀ a b, tu 11 a = tu 11 b → a = b := fun a b z => by unfold tu at z; omega
    -- what was granted before
    obtain ⟨μ1, e1, f1, g1⟩ := mLoop_mem (b := s122L9 2 (nI t)) (μ := μ) (fun i ν => Fr 199 200 μ ν ∧ ∀ j, j < i → mI ν 199 j = mI μ (tu 11 j) 4) 0 10 (fun i ν hi hJ => by
      obtain ⟨hf, hg⟩ := hJ
      have hK := hK.fr hf
      have hF : FabL (mS ν) (mP ν) 11 := by rw [hf.S, hf.P]; exact hF
      have hrow := (hf.2 (tu 11 i) (by have := tl i hi; omega)).1
      refine ⟨mUI ν 199 i (mI μ (tu 11 i) 4), ?_, hf.trans (Fr_UI ν (by omega) (by omega) _ _), fun j hj => ?_⟩
      · rw [Nat.zero_add]
        simp (disch := omega) only [s122L9, ClsL.s hK, ClsL.p0 hK, ClsL.p1 hK, ClsL.p2 hK, ClsL.p3 hK, ClsL.p4 hK, ClsL.p5 hK, ClsL.s192 hK, ClsL.s199 hK, FabL.s0 hF, FabL.p0 hF, FabL.p1 hF, FabL.s1 hF, FabL.s2 hF, FabL.r hF, FabL.rs hF, FabL.rl hF, FabL.ls hF, FabL.l5 hF, FabL.l6 hF, FabL.l7 hF, FabL.l8 hF, FabL.q2 hF, FabL.q3 hF, FabL.q4 hF, FabL.q5 hF, FabL.tp hF, FabL.ts hF, FabL.td hF, FabL.tw hF, FabL.ws hF, FabL.w4 hF, FabL.w5 hF, FabL.w6 hF, FabL.w7 hF, FabL.w8 hF, FabL.v1 hF, FabL.v2 hF, FabL.v3 hF, FabL.v4 hF, FabL.v5 hF, hrow, Option.bind_some, Sum.elim_inl, Sum.elim_inr, reduceIte, if_true, if_false, ite_true, ite_false, not_true_eq_false, not_false_eq_true, or_true, true_or, or_false, false_or, and_true, true_and, and_false, false_and, eq_self, ne_eq, Nat.reduceAdd, Nat.reduceMul, Nat.le_refl, ite_self, Nat.reduceEqDiff, Nat.reduceLeDiff, Nat.reduceLT, L_0, L_1, L_2, L_3, L_4, L_5, L_6, L_7, L_8, L_9, L_10, L_11, L_12, L_13, L_14, L_15, L_16, L_24, L_31, L_40, L_48, L_49, L_50, L_51, L_60, L_72, L_99, L_127, L_132, L_172, L_412, L_428, L_429, L_430, L_431, L_432, L_433, L_1000, nI_add, nI_mul, nI_leI, nI_ltI, nI_eq, m_cl, mInb_iff, nI_ng, ng_nI, ng_ng, nI_lt_ng, ng_lt_nI, nI_le_ng, ng_le_nI, show ¬ 10 ≤ i by omega, hi]
      · rw [mI_UI]
        by_cases q : j = i
        · rw [if_pos ⟨rfl, q⟩, q]
        · rw [if_neg (fun z => q z.2)]; exact hg j (by omega)) (fun ν hJ => by
      simp (disch := omega) only [s122L9, Option.bind_some, Sum.elim_inl, Sum.elim_inr, reduceIte, if_true, if_false, ite_true, ite_false, not_true_eq_false, not_false_eq_true, or_true, true_or, or_false, false_or, and_true, true_and, and_false, false_and, eq_self, ne_eq, Nat.reduceAdd, Nat.reduceMul, Nat.le_refl, ite_self, Nat.reduceEqDiff, Nat.reduceLeDiff, Nat.reduceLT, L_0, L_1, L_2, L_3, L_4, L_5, L_6, L_7, L_8, L_9, L_10, L_11, L_12, L_13, L_14, L_15, L_16, L_24, L_31, L_40, L_48, L_49, L_50, L_51, L_60, L_72, L_99, L_127, L_132, L_172, L_412, L_428, L_429, L_430, L_431, L_432, L_433, L_1000, nI_add, nI_mul, nI_leI, nI_ltI, nI_eq, m_cl, mInb_iff, nI_ng, ng_nI, ng_ng, nI_lt_ng, ng_lt_nI, nI_le_ng, ng_le_nI]) ⟨Fr.refl _ _ _, fun j hj => by omega⟩ (n := 1000) (by omega)
    have hC1 : CS μ1 11 A := hC.fr f1 (by omega)
    have hK1 := hK.fr f1
    have hF1 := hC1.1
    have c2 := CS.shut hC1 hw htt
    have ht1 : WFt (setT A t 0 0) := ht.cg rfl rfl
    have hu1 : WFu (setT A t 0 0) := wfu_sh (t := t) hu rfl (fun _ _ => rfl) (fun _ _ _ _ _ => rfl) rfl
    obtain ⟨μ3, c3, c4, c5⟩ := j34 c2 ht1 hu1
    obtain ⟨w1, w2⟩ := dN_wf (n := 10) (o := -nI 1) ht1 hu1
    have st3 : μ3.2 = μ1.2 := c5.1
    have st4 : (mUI μ3 (tu 11 t) 0 (nI 1)).2.2.2 = μ.2.2.2 := by show μ3.2.2.2 = _; rw [st3]; exact f1.1
    have mf4 : ∀ q, mF μ3 q = mF μ1 q := fun q => by show μ3.2.1 q = _; rw [st3]
    -- memory before the last loop
    have row4 : ∀ q j, ¬ q = 199 → ¬ (j = 4 ∧ ∃ a, a < 10 ∧ q = tu 11 a) → mI (mUI μ3 (tu 11 t) 0 (nI 1)) q j = mI μ q j := by
      intro q j h1 h2
      rw [mI_UI]
      by_cases z : q = tu 11 t ∧ j = 0
      · rw [if_pos z, z.1, z.2, RepC.t0 hC.2 htt, ho]
      · rw [if_neg z, c5.2 q j (fun ⟨y1, a, y2, y3, _⟩ => h2 ⟨y1, a, y2, y3⟩), mI_UI, if_neg z, (f1.2 q (by omega)).1]
    have row9 : ∀ j, j < 10 → mI (mUI μ3 (tu 11 t) 0 (nI 1)) 199 j = mI μ (tu 11 j) 4 := by
      intro j hj
      have := tl t htt
      rw [mI_UI, if_neg (by omega), c5.2 199 j (fun ⟨y1, a, y2, y3, _⟩ => by have := tl a y2; omega), mI_UI, if_neg (by omega)]
      exact g1 j hj
    have rowG : ∀ a, a < 10 → mI (mUI μ3 (tu 11 t) 0 (nI 1)) (tu 11 a) 4 = mI μ3 (tu 11 a) 4 := fun a ha => by rw [mI_UI, if_neg (by omega)]
    generalize hμ4 : mUI μ3 (tu 11 t) 0 (nI 1) = μ4 at *
    have hS4 : mS μ4 = mS μ := by show μ4.2.2.2.2.1 = _; rw [st4]
    have hP4 : mP μ4 = mP μ := by show μ4.2.2.2.1 = _; rw [st4]
    obtain ⟨o, e5, μ5, rfl, h51, h52, h53⟩ := mLoop_inv0 (b := s122L45 2) (fun i s => s.2.1 = nI i ∧ s.1 = rp (fun a x => x + (mI μ4 (tu 11 a) 4 - mI μ (tu 11 a) 4)) i (nI 0) ∧ s.2.2.2 = μ4.2 ∧ (∀ q j, (j = 4 ∧ ∃ a, a < i ∧ q = tu 11 a) → mI s.2.2 q j = mI μ q j) ∧ ∀ q j, ¬ (j = 4 ∧ ∃ a, a < i ∧ q = tu 11 a) → mI s.2.2 q j = mI μ4 q j) 10 (fun o => ∃ μ5, o = .inl (rp (fun a x => x + (mI μ4 (tu 11 a) 4 - mI μ (tu 11 a) 4)) 10 (nI 0), μ5) ∧ μ5.2 = μ4.2 ∧ (∀ q j, (j = 4 ∧ ∃ a, a < 10 ∧ q = tu 11 a) → mI μ5 q j = mI μ q j) ∧ ∀ q j, ¬ (j = 4 ∧ ∃ a, a < 10 ∧ q = tu 11 a) → mI μ5 q j = mI μ4 q j) (fun i s hi hI => by
      obtain ⟨x, y, ν⟩ := s
      obtain ⟨i1, i2, i3, i4, i5⟩ := hI
      simp only at i1 i2 i3 i4 i5
      subst i1
      have hSν : mS ν = mS μ := by show ν.2.2.2.2.1 = _; rw [i3]; exact hS4
      have hPν : mP ν = mP μ := by show ν.2.2.2.1 = _; rw [i3]; exact hP4
      have hK : ClsL (mS ν) (mP ν) := by rw [hSν, hPν]; exact hK
      have hF : FabL (mS ν) (mP ν) 11 := by rw [hSν, hPν]; exact hF
      have r1 : mI ν 199 i = mI μ (tu 11 i) 4 := by
        rw [i5 199 i (fun ⟨_, a, z1, z2⟩ => by have := tl a (by omega); omega)]; exact row9 i hi
      have r2 : mI ν (tu 11 i) 4 = mI μ4 (tu 11 i) 4 := by
        rw [i5 _ _ (fun ⟨_, a, z1, z2⟩ => by have := tj _ _ z2; omega)]
      refine Or.inl ⟨(x + (mI μ4 (tu 11 i) 4 - mI μ (tu 11 i) 4), nI (i + 1), mUI ν (tu 11 i) 4 (mI μ (tu 11 i) 4)), ?_, rfl, by rw [i2]; rfl, i3, fun q j h => ?_, fun q j h => ?_⟩
      · simp (disch := omega) only [s122L45, ClsL.s hK, ClsL.p0 hK, ClsL.p1 hK, ClsL.p2 hK, ClsL.p3 hK, ClsL.p4 hK, ClsL.p5 hK, ClsL.s192 hK, ClsL.s199 hK, FabL.s0 hF, FabL.p0 hF, FabL.p1 hF, FabL.s1 hF, FabL.s2 hF, FabL.r hF, FabL.rs hF, FabL.rl hF, FabL.ls hF, FabL.l5 hF, FabL.l6 hF, FabL.l7 hF, FabL.l8 hF, FabL.q2 hF, FabL.q3 hF, FabL.q4 hF, FabL.q5 hF, FabL.tp hF, FabL.ts hF, FabL.td hF, FabL.tw hF, FabL.ws hF, FabL.w4 hF, FabL.w5 hF, FabL.w6 hF, FabL.w7 hF, FabL.w8 hF, FabL.v1 hF, FabL.v2 hF, FabL.v3 hF, FabL.v4 hF, FabL.v5 hF, r1, r2, Option.bind_some, Sum.elim_inl, Sum.elim_inr, reduceIte, if_true, if_false, ite_true, ite_false, not_true_eq_false, not_false_eq_true, or_true, true_or, or_false, false_or, and_true, true_and, and_false, false_and, eq_self, ne_eq, Nat.reduceAdd, Nat.reduceMul, Nat.le_refl, ite_self, Nat.reduceEqDiff, Nat.reduceLeDiff, Nat.reduceLT, L_0, L_1, L_2, L_3, L_4, L_5, L_6, L_7, L_8, L_9, L_10, L_11, L_12, L_13, L_14, L_15, L_16, L_24, L_31, L_40, L_48, L_49, L_50, L_51, L_60, L_72, L_99, L_127, L_132, L_172, L_412, L_428, L_429, L_430, L_431, L_432, L_433, L_1000, nI_add, nI_mul, nI_leI, nI_ltI, nI_eq, m_cl, mInb_iff, nI_ng, ng_nI, ng_ng, nI_lt_ng, ng_lt_nI, nI_le_ng, ng_le_nI, show ¬ 10 ≤ i by omega, hi]
      · show mI (mUI ν (tu 11 i) 4 (mI μ (tu 11 i) 4)) q j = _
        rw [mI_UI]
        by_cases z : q = tu 11 i ∧ j = 4
        · rw [if_pos z, z.1, z.2]
        · rw [if_neg z]
          obtain ⟨z3, a, z4, z5⟩ := h
          refine i4 q j ⟨z3, a, ?_, z5⟩
          by_cases z6 : a = i
          · exact absurd ⟨by rw [z5, z6], z3⟩ z
          · omega
      · show mI (mUI ν (tu 11 i) 4 (mI μ (tu 11 i) 4)) q j = _
        rw [mI_UI, if_neg (fun z => h ⟨z.2, i, by omega, z.1⟩)]
        exact i5 q j (fun ⟨z3, a, z4, z5⟩ => h ⟨z3, a, by omega, z5⟩)) (fun s hI => by
      obtain ⟨x, y, ν⟩ := s
      obtain ⟨i1, i2, i3, i4, i5⟩ := hI
      simp only at i1 i2 i3 i4 i5
      subst i1 i2
      refine ⟨_, ?_, ν, rfl, i3, i4, i5⟩
      simp (disch := omega) only [s122L45, Option.bind_some, Sum.elim_inl, Sum.elim_inr, reduceIte, if_true, if_false, ite_true, ite_false, not_true_eq_false, not_false_eq_true, or_true, true_or, or_false, false_or, and_true, true_and, and_false, false_and, eq_self, ne_eq, Nat.reduceAdd, Nat.reduceMul, Nat.le_refl, ite_self, Nat.reduceEqDiff, Nat.reduceLeDiff, Nat.reduceLT, L_0, L_1, L_2, L_3, L_4, L_5, L_6, L_7, L_8, L_9, L_10, L_11, L_12, L_13, L_14, L_15, L_16, L_24, L_31, L_40, L_48, L_49, L_50, L_51, L_60, L_72, L_99, L_127, L_132, L_172, L_412, L_428, L_429, L_430, L_431, L_432, L_433, L_1000, nI_add, nI_mul, nI_leI, nI_ltI, nI_eq, m_cl, mInb_iff, nI_ng, ng_nI, ng_ng, nI_lt_ng, ng_lt_nI, nI_le_ng, ng_le_nI]) (s := (nI 0, nI 0, μ4)) ⟨rfl, rfl, rfl, fun q j ⟨_, a, z, _⟩ => by omega, fun q j _ => rfl⟩ (n := 1000) (by omega)
    have hf5 : Fr 199 200 μ μ5 := by
      refine ⟨by rw [show μ5.2.2.2 = μ4.2.2.2 by rw [h51]]; exact st4, fun q hq => ⟨?_, ?_⟩⟩
      · funext j
        by_cases z : j = 4 ∧ ∃ a, a < 10 ∧ q = tu 11 a
        · exact h52 q j z
        · rw [h53 q j z]; exact row4 q j (by omega) z
      · show μ5.2.1 q = _
        rw [h51, ← hμ4]
        show mF μ3 q = _
        rw [mf4 q]; exact (f1.2 q (by omega)).2
    -- the sum
    have sum : ∀ n, n ≤ 10 → rp (fun a x => x + (mI μ4 (tu 11 a) 4 - mI μ (tu 11 a) 4)) n (nI 0) = nI (sumN (fun a => if aT (dist (setT A t 0 0)) a 0 = 1 ∧ aT (dist (setT A t 0 0)) a 1 = 0 then aT (dist (setT A t 0 0)) a 4 else 0) n) - nI (sumN (fun a => if aT (setT A t 0 0) a 0 = 1 ∧ aT (setT A t 0 0) a 1 = 0 then aT (setT A t 0 0) a 4 else 0) n) := by
      intro n
      induction n with
      | zero => intro _; exact (sub0 (nI 0)).symm
      | succ n ih =>
        intro hn
        show rp (fun a x => x + (mI μ4 (tu 11 a) 4 - mI μ (tu 11 a) 4)) n (nI 0) + (mI μ4 (tu 11 n) 4 - mI μ (tu 11 n) 4) = _
        rw [ih (by omega), rowG n (by omega)]
        have d0 : aT (dist (setT A t 0 0)) n 0 = aT (setT A t 0 0) n 0 := dN_eq.2.2 n 0 (by omega)
        have d1 : aT (dist (setT A t 0 0)) n 1 = aT (setT A t 0 0) n 1 := dN_eq.2.2 n 1 (by omega)
        simp only [sumN]
        rw [← nI_add, ← nI_add, d0, d1]
        by_cases z : aT (setT A t 0 0) n 0 = 1 ∧ aT (setT A t 0 0) n 1 = 0
        · rw [if_pos z, if_pos z]
          have z0 : aT (dist (setT A t 0 0)) n 0 = 1 := d0.trans z.1
          have z1 : aT A n 0 = 1 := by
            have := z.1
            rw [aT_setT] at this
            by_cases y : n = t
            · rw [if_pos ⟨y, rfl⟩] at this; omega
            · rw [if_neg (fun w => y w.1)] at this; exact this
          rw [RepC.t4 c4.2 (by omega) z0, RepC.t4 hC.2 (by omega) z1, subs4, aT_setT, if_neg (by omega)]
        · rw [if_neg z, if_neg z]
          have e6 : mI μ3 (tu 11 n) 4 = mI μ (tu 11 n) 4 := by
            rw [c5.2 (tu 11 n) 4 (fun ⟨_, a, y2, y3, y4, y5⟩ => by
              have := tj _ _ y3; subst this; exact z ⟨y4, y5⟩), mI_UI, if_neg (by omega)]
            have := tl n (by omega)
            exact congrFun (f1.2 (tu 11 n) (by omega)).1 4
          rw [e6, sub0]
          have : ∀ x : Int32, x + nI 0 = x := fun x => Int32.add_zero x
          rw [this, this, this]
    have hval := sum 10 (by omega)
    -- the reference
    have hM5 : RS μ5 A := hM.fr hf5 (by omega)
    obtain ⟨ν1, p1, p2, p3⟩ := mLoop_mem (b := s231L8 200 (nI t)) (μ := μ5) (fun i ν => Fr 218 219 μ5 ν ∧ ∀ j, j < i → mI ν 218 j = nI (aT A j 4)) 0 10 (fun i ν hi hJ => by
      obtain ⟨hf, hg⟩ := hJ
      have hMν := hM5.fr hf (by omega)
      have hR := hMν.1
      refine ⟨mUI ν 218 i (nI (aT A i 4)), ?_, hf.trans (Fr_UI ν (by omega) (by omega) _ _), fun j hj => ?_⟩
      · rw [Nat.zero_add]
        simp (disch := omega) only [s231L8, RefL.s hR, RefL.r0 hR, RefL.r1 hR, RefL.r2 hR, RefL.r3 hR, RefL.r4 hR, RefL.r5 hR, RefL.r7 hR, RefL.r8 hR, RefL.r9 hR, RefL.r10 hR, RefL.r12 hR, RefL.r13 hR, RefL.r14 hR, RefL.r15 hR, RefL.r16 hR, RefL.r17 hR, RefL.r18 hR, RefL.r19 hR, RefL.a0 hR, RefL.a1 hR, RefL.a2 hR, RefL.a3 hR, RefL.a4 hR, RefL.a5 hR, RefL.a7 hR, RefL.a8 hR, RefL.a9 hR, RefL.a10 hR, RefL.a12 hR, RefL.a13 hR, RefL.a14 hR, RefL.a15 hR, RefL.a16 hR, RefL.a17 hR, RefL.a18 hR, RefL.a19 hR, k159 hMν, Option.bind_some, Sum.elim_inl, Sum.elim_inr, reduceIte, if_true, if_false, ite_true, ite_false, not_true_eq_false, not_false_eq_true, or_true, true_or, or_false, false_or, and_true, true_and, and_false, false_and, eq_self, ne_eq, Nat.reduceAdd, Nat.reduceMul, Nat.le_refl, ite_self, Nat.reduceEqDiff, Nat.reduceLeDiff, Nat.reduceLT, L_0, L_1, L_2, L_3, L_4, L_5, L_6, L_7, L_8, L_9, L_10, L_11, L_12, L_13, L_14, L_15, L_16, L_24, L_31, L_40, L_48, L_49, L_50, L_51, L_60, L_72, L_99, L_127, L_132, L_172, L_412, L_428, L_429, L_430, L_431, L_432, L_433, L_1000, nI_add, nI_mul, nI_leI, nI_ltI, nI_eq, m_cl, mInb_iff, nI_ng, ng_nI, ng_ng, nI_lt_ng, ng_lt_nI, nI_le_ng, ng_le_nI, show ¬ 10 ≤ i by omega, hi]
      · rw [mI_UI]
        by_cases q : j = i
        · rw [if_pos ⟨rfl, q⟩, q]
        · rw [if_neg (fun z => q z.2)]; exact hg j (by omega)) (fun ν hJ => by
      simp (disch := omega) only [s231L8, Option.bind_some, Sum.elim_inl, Sum.elim_inr, reduceIte, if_true, if_false, ite_true, ite_false, not_true_eq_false, not_false_eq_true, or_true, true_or, or_false, false_or, and_true, true_and, and_false, false_and, eq_self, ne_eq, Nat.reduceAdd, Nat.reduceMul, Nat.le_refl, ite_self, Nat.reduceEqDiff, Nat.reduceLeDiff, Nat.reduceLT, L_0, L_1, L_2, L_3, L_4, L_5, L_6, L_7, L_8, L_9, L_10, L_11, L_12, L_13, L_14, L_15, L_16, L_24, L_31, L_40, L_48, L_49, L_50, L_51, L_60, L_72, L_99, L_127, L_132, L_172, L_412, L_428, L_429, L_430, L_431, L_432, L_433, L_1000, nI_add, nI_mul, nI_leI, nI_ltI, nI_eq, m_cl, mInb_iff, nI_ng, ng_nI, ng_ng, nI_lt_ng, ng_lt_nI, nI_le_ng, ng_le_nI]) ⟨Fr.refl _ _ _, fun j hj => by omega⟩ (n := 1000) (by omega)
    have m1 := hM5.fr p2 (by omega)
    have a1 := k160 (v := 0) m1 htt (k := 0) (by omega)
    have m2 := RS.uT (v := 0) (k := 0) m1 htt (by omega)
    have fr2 : Fr 201 202 ν1 (mUI ν1 201 (72 + 6 * t + 0) (nI 0)) := Fr_UI _ (by omega) (by omega) _ _
    generalize mUI ν1 201 (72 + 6 * t + 0) (nI 0) = ν2 at *
    obtain ⟨ν3, a3, m3, fr3⟩ := k171 m2 ht1 hu1
    have a2 := k230 m2 hu1
    have a4 := k230 m3 w2
    have a5 := k160 (v := 1) m3 htt (k := 0) (by omega)
    have m4 := RS.uT (v := 1) (k := 0) m3 htt (by omega)
    have fr4 : Fr 201 202 ν3 (mUI ν3 201 (72 + 6 * t + 0) (nI 1)) := Fr_UI _ (by omega) (by omega) _ _
    generalize mUI ν3 201 (72 + 6 * t + 0) (nI 1) = ν4 at *
    have fr14 := (fr2.trans fr3).trans fr4
    have hB : ∀ a k, ¬ k = 4 → aT (setT (dist (setT A t 0 0)) t 0 1) a k = aT A a k := by
      intro a k hk
      rw [aT_setT]
      by_cases z : a = t ∧ k = 0
      · rw [if_pos z, z.1, z.2, ho]
      · rw [if_neg z]
        show aT (dN 10 (-nI 1) _) a k = _
        rw [dN_eq.2.2 a k hk, aT_setT, if_neg z]
    obtain ⟨ν5, a6, B, m5, b1, b2, b3, b4, fr5⟩ := mLoop_mem (b := s231L43 200 (nI (grN (dist (setT A t 0 0))) - nI (grN (setT A t 0 0)))) (μ := ν4) (fun i ν => ∃ B, RS ν B ∧ B.1 = A.1 ∧ B.2.2 = A.2.2 ∧ (∀ a k, ¬ k = 4 → aT B a k = aT A a k) ∧ (∀ a, a < i → aT B a 4 = aT A a 4) ∧ Fr 201 202 ν4 ν) 0 10 (fun i ν hi hJ => by
      obtain ⟨B, m5, b1, b2, b3, b4, fr5⟩ := hJ
      have hR := m5.1
      have r1 : mI ν 218 i = nI (aT A i 4) := by
        rw [(fr5.2 218 (by omega)).1, (fr14.2 218 (by omega)).1]; exact p3 i hi
      refine ⟨mUI ν 201 (72 + 6 * i + 4) (nI (aT A i 4)), ?_, setT B i 4 (aT A i 4), RS.uT m5 hi (by omega), b1, b2, fun a k hk => ?_, fun a ha => ?_, fr5.trans (Fr_UI _ (by omega) (by omega) _ _)⟩
      · have a7 := k160 (v := aT A i 4) m5 hi (k := 4) (by omega)
        rw [Nat.zero_add]
        simp (disch := omega) only [s231L43, RefL.s hR, RefL.r0 hR, RefL.r1 hR, RefL.r2 hR, RefL.r3 hR, RefL.r4 hR, RefL.r5 hR, RefL.r7 hR, RefL.r8 hR, RefL.r9 hR, RefL.r10 hR, RefL.r12 hR, RefL.r13 hR, RefL.r14 hR, RefL.r15 hR, RefL.r16 hR, RefL.r17 hR, RefL.r18 hR, RefL.r19 hR, RefL.a0 hR, RefL.a1 hR, RefL.a2 hR, RefL.a3 hR, RefL.a4 hR, RefL.a5 hR, RefL.a7 hR, RefL.a8 hR, RefL.a9 hR, RefL.a10 hR, RefL.a12 hR, RefL.a13 hR, RefL.a14 hR, RefL.a15 hR, RefL.a16 hR, RefL.a17 hR, RefL.a18 hR, RefL.a19 hR, r1, a7, Option.bind_some, Sum.elim_inl, Sum.elim_inr, reduceIte, if_true, if_false, ite_true, ite_false, not_true_eq_false, not_false_eq_true, or_true, true_or, or_false, false_or, and_true, true_and, and_false, false_and, eq_self, ne_eq, Nat.reduceAdd, Nat.reduceMul, Nat.le_refl, ite_self, Nat.reduceEqDiff, Nat.reduceLeDiff, Nat.reduceLT, L_0, L_1, L_2, L_3, L_4, L_5, L_6, L_7, L_8, L_9, L_10, L_11, L_12, L_13, L_14, L_15, L_16, L_24, L_31, L_40, L_48, L_49, L_50, L_51, L_60, L_72, L_99, L_127, L_132, L_172, L_412, L_428, L_429, L_430, L_431, L_432, L_433, L_1000, nI_add, nI_mul, nI_leI, nI_ltI, nI_eq, m_cl, mInb_iff, nI_ng, ng_nI, ng_ng, nI_lt_ng, ng_lt_nI, nI_le_ng, ng_le_nI, show ¬ 10 ≤ i by omega, hi]
      · rw [aT_setT, if_neg (by omega)]; exact b3 a k hk
      · rw [aT_setT]
        by_cases z : a = i
        · rw [if_pos ⟨z, rfl⟩, z]
        · rw [if_neg (fun y => z y.1)]; exact b4 a (by omega)) (fun ν hJ => by
      simp (disch := omega) only [s231L43, Option.bind_some, Sum.elim_inl, Sum.elim_inr, reduceIte, if_true, if_false, ite_true, ite_false, not_true_eq_false, not_false_eq_true, or_true, true_or, or_false, false_or, and_true, true_and, and_false, false_and, eq_self, ne_eq, Nat.reduceAdd, Nat.reduceMul, Nat.le_refl, ite_self, Nat.reduceEqDiff, Nat.reduceLeDiff, Nat.reduceLT, L_0, L_1, L_2, L_3, L_4, L_5, L_6, L_7, L_8, L_9, L_10, L_11, L_12, L_13, L_14, L_15, L_16, L_24, L_31, L_40, L_48, L_49, L_50, L_51, L_60, L_72, L_99, L_127, L_132, L_172, L_412, L_428, L_429, L_430, L_431, L_432, L_433, L_1000, nI_add, nI_mul, nI_leI, nI_ltI, nI_eq, m_cl, mInb_iff, nI_ng, ng_nI, ng_ng, nI_lt_ng, ng_lt_nI, nI_le_ng, ng_le_nI]) ⟨_, m4, (dN_eq (n := 10) (o := -nI 1) (A := setT A t 0 0)).1, (dN_eq (n := 10) (o := -nI 1) (A := setT A t 0 0)).2.1, hB, fun a ha => by omega, Fr.refl _ _ _⟩ (n := 1000) (by omega)
    have m6 : RS ν5 A := ⟨m5.1, m5.2.cg b1.symm b2.symm (fun a k ha hk => by
      by_cases z : k = 4
      · subst z; exact (b4 a ha).symm
      · exact (b3 a k z).symm)⟩
    have hK4 : ClsL (mS μ4) (mP μ4) := by rw [hS4, hP4]; exact hK
    refine ⟨nI (grN (dist (setT A t 0 0))) - nI (grN (setT A t 0 0)), μ5, ν5, A, ?_, ⟨Fr.mono hf5 (by omega) (by omega), fun h => h.fr hf5 (by omega)⟩, hC.fr hf5 (by omega), ?_, ?_, (Fr.R p2 (by omega)).trans (Fr.R (fr14.trans fr5) (by omega)), m6, ht, hu⟩
    · have s1 := ClsL.s hK1
      have s2 := ClsL.p1 hK1
      have s3 := FabL.s0 hF1
      have s4 := FabL.p1 hF1
      have s5 := FabL.s2 hF1
      have s6 := FabL.tp hF1 htt
      have s7 := FabL.ts hF1 htt
      have hK3 : ClsL (mS μ3) (mP μ3) := by
        have z1 : mS μ3 = mS μ1 := by show μ3.2.2.2.2.1 = _; rw [st3]
        have z2 : mP μ3 = mP μ1 := by show μ3.2.2.2.1 = _; rw [st3]
        rw [z1, z2]; exact hK1
      have hF3 := c4.1
      have t1 := ClsL.s hK3
      have t2 := ClsL.p1 hK3
      have t3 := FabL.s0 hF3
      have t4 := FabL.p1 hF3
      have t5 := FabL.s2 hF3
      have t6 := FabL.tp hF3 htt
      have t7 := FabL.ts hF3 htt
      have m0 : mInb (nI t) 10 := (mInb_iff (by omega)).mpr htt
      unfold s122
      refine iteT (by rw [ClsL.s hK]) (iteT (by rw [ClsL.p1 hK, FabL.s0 hF]) (bindS (v := nI 1) (by rw [ClsL.p1 hK]; exact l1) (iteT (by decide) (bindS e1 ?_))))
      simp only [Sum.elim_inl]
      have mc := m_cl (show t < 2 ^ 31 by omega)
      simp only [s2, s4, mc, s6]
      refine iteT (by rw [s1]) (iteT (by rw [s3]) (iteT (by rw [s5]; exact ⟨rfl, m0⟩) (iteT (by rw [s7]) ?_)))
      simp only [Option.bind_some, mS_UI, mP_UI, s2]
      refine iteT (by rw [s3]) (bindS c3 ?_)
      simp only [t2, t4, mc, t6]
      refine iteT (by rw [t1]) (iteT (by rw [t3]) (iteT (by rw [t5]; exact ⟨rfl, m0⟩) (iteT (by rw [t7]) ?_)))
      rw [show mUI μ3 (tu 11 t) 0 1 = μ4 from hμ4]
      refine bindS e5 ?_
      simp only [Sum.elim_inl]
      rw [hval]; rfl
    · intro t d k a b c e
      rw [(hf5.2 _ (by unfold wy; omega)).1]; exact hZ t d k a b c e
    · have l3 := tun2 hM5 htt ho
      have r1 := RefL.s hM5.1
      have r2 := RefL.s m1.1
      have r3 := RefL.s m2.1
      have r4 := RefL.s m3.1
      simp (disch := omega) only [s231, l3, p1, a1, a2, a3, a4, a5, a6, r1, r2, r3, r4, Option.bind_some, Sum.elim_inl, Sum.elim_inr, reduceIte, if_true, if_false, ite_true, ite_false, not_true_eq_false, not_false_eq_true, or_true, true_or, or_false, false_or, and_true, true_and, and_false, false_and, eq_self, ne_eq, Nat.reduceAdd, Nat.reduceMul, Nat.le_refl, ite_self, Nat.reduceEqDiff, Nat.reduceLeDiff, Nat.reduceLT, L_0, L_1, L_2, L_3, L_4, L_5, L_6, L_7, L_8, L_9, L_10, L_11, L_12, L_13, L_14, L_15, L_16, L_24, L_31, L_40, L_48, L_49, L_50, L_51, L_60, L_72, L_99, L_127, L_132, L_172, L_412, L_428, L_429, L_430, L_431, L_432, L_433, L_1000, nI_add, nI_mul, nI_leI, nI_ltI, nI_eq, m_cl, mInb_iff, nI_ng, ng_nI, ng_ng, nI_lt_ng, ng_lt_nI, nI_le_ng, ng_le_nI]
  · refine ⟨-nI 1, μ, μ, A, ?_, FrC.refl _, hC, hZ, ?_, FrR.refl _, hM, ht, hu⟩
    · unfold s122
      exact iteT (by rw [ClsL.s hK]) (iteT (by rw [ClsL.p1 hK, FabL.s0 hF]) (bindS (v := nI 0) (by rw [ClsL.p1 hK]; exact l1) (iteF (by decide) rfl)))
    · simp (disch := omega) only [s231, RefL.s hR, RefL.r0 hR, RefL.r1 hR, RefL.r2 hR, RefL.r3 hR, RefL.r4 hR, RefL.r5 hR, RefL.r7 hR, RefL.r8 hR, RefL.r9 hR, RefL.r10 hR, RefL.r12 hR, RefL.r13 hR, RefL.r14 hR, RefL.r15 hR, RefL.r16 hR, RefL.r17 hR, RefL.r18 hR, RefL.r19 hR, RefL.a0 hR, RefL.a1 hR, RefL.a2 hR, RefL.a3 hR, RefL.a4 hR, RefL.a5 hR, RefL.a7 hR, RefL.a8 hR, RefL.a9 hR, RefL.a10 hR, RefL.a12 hR, RefL.a13 hR, RefL.a14 hR, RefL.a15 hR, RefL.a16 hR, RefL.a17 hR, RefL.a18 hR, RefL.a19 hR, l2, Option.bind_some, Sum.elim_inl, Sum.elim_inr, reduceIte, if_true, if_false, ite_true, ite_false, not_true_eq_false, not_false_eq_true, or_true, true_or, or_false, false_or, and_true, true_and, and_false, false_and, eq_self, ne_eq, Nat.reduceAdd, Nat.reduceMul, Nat.le_refl, ite_self, Nat.reduceEqDiff, Nat.reduceLeDiff, Nat.reduceLT, L_0, L_1, L_2, L_3, L_4, L_5, L_6, L_7, L_8, L_9, L_10, L_11, L_12, L_13, L_14, L_15, L_16, L_24, L_31, L_40, L_48, L_49, L_50, L_51, L_60, L_72, L_99, L_127, L_132, L_172, L_412, L_428, L_429, L_430, L_431, L_432, L_433, L_1000, nI_add, nI_mul, nI_leI, nI_ltI, nI_eq, m_cl, mInb_iff, nI_ng, ng_nI, ng_ng, nI_lt_ng, ng_lt_nI, nI_le_ng, ng_le_nI]
end GA
