/-! closing a tunnel; close, claim, widen -/
theorem mLoop_mem {ρ : Type} {b : Int32 × mM → Option ((Int32 × mM) ⊕ (mM ⊕ ρ))} {μ : mM} (J : Nat → mM → Prop) (s N : Nat) (hs : ∀ i ν, i < N → J i ν → ∃ ν', b (nI (s + i), ν) = some (.inl (nI (s + i + 1), ν')) ∧ J (i + 1) ν') (he : ∀ ν, J N ν → b (nI (s + N), ν) = some (.inr (.inl ν))) (h0 : J 0 μ) {n : Nat} (hn : N < n) : ∃ μ', mLoop b n (nI s, μ) = some (.inl μ') ∧ J N μ' := by
  obtain ⟨o, e, μ', rfl, h⟩ := mLoop_inv0 (b := b) (fun i p => p.1 = nI (s + i) ∧ J i p.2) N (fun o => ∃ μ', o = .inl μ' ∧ J N μ') (fun i p hi hI => by
    obtain ⟨x, ν⟩ := p
    obtain ⟨h1, h2⟩ := hI
    simp only at h1 h2
    subst h1
    obtain ⟨ν', a, b⟩ := hs i ν hi h2
    exact Or.inl ⟨_, a, by rw [Nat.add_assoc], b⟩) (fun p hI => by
    obtain ⟨x, ν⟩ := p
    obtain ⟨h1, h2⟩ := hI
    simp only at h1 h2
    subst h1
    exact ⟨_, he ν h2, ν, rfl, h2⟩) (s := (nI s, μ)) ⟨rfl, h0⟩ hn
  exact ⟨μ', e, h⟩
/-- a tunnel's ways cleared -/
def clr (A : Ab) (t : Nat) : Ab := (A.1, A.2.1, (fun a b c e => if a = t then 0 else A.2.2.1 a b c e), A.2.2.2)
theorem aW_clr {A : Ab} {t a b c e : Nat} : aW (clr A t) a b c e = if a = t then 0 else aW A a b c e := rfl
def lostN (A : Ab) (t : Nat) : Nat := sumN (fun d => aW A t d 4 0 + celN A t d) 2
/-- a tunnel closed -/
def shutA (A : Ab) (t : Nat) : Ab := setC (clr (setT A t 0 0) t) 2 (aC A 2 + lostN A t)
theorem shutA_eq {A : Ab} {t : Nat} : (shutA A t).1 = A.1 ∧ (shutA A t).2.2.2.2 = A.2.2.2.2 ∧ (∀ a k, aT (shutA A t) a k = if a = t ∧ k = 0 then 0 else aT A a k) ∧ (∀ a b c e, aW (shutA A t) a b c e = if a = t then 0 else aW A a b c e) := ⟨rfl, rfl, fun _ _ => rfl, fun _ _ _ _ => rfl⟩
section SH
variable {μ μ' : mM} {A A' : Ab} {f r k t d h q v : Nat}
theorem RefL.fr {lo hi : Nat} {ν : mM} (hR : RefL (mS μ) (mP μ)) (hf : Fr lo hi μ ν) : RefL (mS ν) (mP ν) := by rw [hf.S, hf.P]; exact hR
theorem k173 (hM : RS μ A) (htt : t < 10) : ∃ μ', s173 μ 200 (nI t) = some μ' ∧ RS μ' (clr A t) ∧ Fr 201 202 μ μ' := by
  obtain ⟨μ1, e1, f1, g1⟩ := mLoop_mem (b := s173L2 200 (nI t)) (μ := μ) (fun i ν => Fr 201 202 μ ν ∧ ∀ j, mI ν 201 j = if 132 + 4 * t ≤ j ∧ j < 132 + 4 * t + i then nI 0 else mI μ 201 j) 0 4 (fun i ν hi hJ => by
    obtain ⟨hf, hg⟩ := hJ
    have hR := hM.1.fr hf
    refine ⟨mUI ν 201 (132 + 4 * t + i) (nI 0), ?_, hf.trans (Fr_UI ν (by omega) (by omega) _ _), fun j => ?_⟩
    · rw [Nat.zero_add]
      simp (disch := omega) only [s173L2, RefL.s hR, RefL.r0 hR, RefL.r1 hR, RefL.r2 hR, RefL.r3 hR, RefL.r4 hR, RefL.r5 hR, RefL.r7 hR, RefL.r8 hR, RefL.r9 hR, RefL.r10 hR, RefL.r12 hR, RefL.r13 hR, RefL.r14 hR, RefL.r15 hR, RefL.r16 hR, RefL.r17 hR, RefL.r18 hR, RefL.r19 hR, RefL.a0 hR, RefL.a1 hR, RefL.a2 hR, RefL.a3 hR, RefL.a4 hR, RefL.a5 hR, RefL.a7 hR, RefL.a8 hR, RefL.a9 hR, RefL.a10 hR, RefL.a12 hR, RefL.a13 hR, RefL.a14 hR, RefL.a15 hR, RefL.a16 hR, RefL.a17 hR, RefL.a18 hR, RefL.a19 hR, Option.bind_some, Sum.elim_inl, Sum.elim_inr, reduceIte, if_true, if_false, ite_true, ite_false, not_true_eq_false, not_false_eq_true, or_true, true_or, or_false, false_or, and_true, true_and, and_false, false_and, eq_self, ne_eq, Nat.reduceAdd, Nat.reduceMul, Nat.le_refl, ite_self, Nat.reduceEqDiff, Nat.reduceLeDiff, Nat.reduceLT, L_0, L_1, L_2, L_3, L_4, L_5, L_6, L_7, L_8, L_9, L_10, L_11, L_12, L_13, L_14, L_15, L_16, L_24, L_31, L_40, L_48, L_49, L_50, L_51, L_60, L_72, L_99, L_127, L_132, L_172, L_412, L_428, L_429, L_430, L_431, L_432, L_433, L_1000, nI_add, nI_mul, nI_leI, nI_ltI, nI_eq, m_cl, mInb_iff, nI_ng, ng_nI, ng_ng, nI_lt_ng, ng_lt_nI, nI_le_ng, ng_le_nI, show ¬ 4 ≤ i by omega]
      rw [if_pos (by omega)]
    · rw [mI_UI]
      by_cases q : j = 132 + 4 * t + i
      · rw [if_pos ⟨rfl, q⟩, if_pos (by omega)]
      · rw [if_neg (fun z => q z.2), hg j]
        by_cases q2 : 132 + 4 * t ≤ j ∧ j < 132 + 4 * t + i
        · rw [if_pos q2, if_pos (by omega)]
        · rw [if_neg q2, if_neg (by omega)]) (fun ν hJ => by
    simp (disch := omega) only [s173L2, Option.bind_some, Sum.elim_inl, Sum.elim_inr, reduceIte, if_true, if_false, ite_true, ite_false, not_true_eq_false, not_false_eq_true, or_true, true_or, or_false, false_or, and_true, true_and, and_false, false_and, eq_self, ne_eq, Nat.reduceAdd, Nat.reduceMul, Nat.le_refl, ite_self, Nat.reduceEqDiff, Nat.reduceLeDiff, Nat.reduceLT, L_0, L_1, L_2, L_3, L_4, L_5, L_6, L_7, L_8, L_9, L_10, L_11, L_12, L_13, L_14, L_15, L_16, L_24, L_31, L_40, L_48, L_49, L_50, L_51, L_60, L_72, L_99, L_127, L_132, L_172, L_412, L_428, L_429, L_430, L_431, L_432, L_433, L_1000, nI_add, nI_mul, nI_leI, nI_ltI, nI_eq, m_cl, mInb_iff, nI_ng, ng_nI, ng_ng, nI_lt_ng, ng_lt_nI, nI_le_ng, ng_le_nI]) ⟨Fr.refl _ _ _, fun j => by rw [if_neg (by omega)]⟩ (n := 1000) (by omega)
  obtain ⟨μ2, e2, f2, g2⟩ := mLoop_mem (b := s173L20 200 (nI t)) (μ := μ1) (fun i ν => Fr 201 202 μ1 ν ∧ ∀ j, mI ν 201 j = if 172 + 24 * t ≤ j ∧ j < 172 + 24 * t + i then nI 0 else mI μ1 201 j) 0 24 (fun i ν hi hJ => by
    obtain ⟨hf, hg⟩ := hJ
    have hR := (hM.1.fr f1).fr hf
    refine ⟨mUI ν 201 (172 + 24 * t + i) (nI 0), ?_, hf.trans (Fr_UI ν (by omega) (by omega) _ _), fun j => ?_⟩
    · rw [Nat.zero_add]
      simp (disch := omega) only [s173L20, RefL.s hR, RefL.r0 hR, RefL.r1 hR, RefL.r2 hR, RefL.r3 hR, RefL.r4 hR, RefL.r5 hR, RefL.r7 hR, RefL.r8 hR, RefL.r9 hR, RefL.r10 hR, RefL.r12 hR, RefL.r13 hR, RefL.r14 hR, RefL.r15 hR, RefL.r16 hR, RefL.r17 hR, RefL.r18 hR, RefL.r19 hR, RefL.a0 hR, RefL.a1 hR, RefL.a2 hR, RefL.a3 hR, RefL.a4 hR, RefL.a5 hR, RefL.a7 hR, RefL.a8 hR, RefL.a9 hR, RefL.a10 hR, RefL.a12 hR, RefL.a13 hR, RefL.a14 hR, RefL.a15 hR, RefL.a16 hR, RefL.a17 hR, RefL.a18 hR, RefL.a19 hR, Option.bind_some, Sum.elim_inl, Sum.elim_inr, reduceIte, if_true, if_false, ite_true, ite_false, not_true_eq_false, not_false_eq_true, or_true, true_or, or_false, false_or, and_true, true_and, and_false, false_and, eq_self, ne_eq, Nat.reduceAdd, Nat.reduceMul, Nat.le_refl, ite_self, Nat.reduceEqDiff, Nat.reduceLeDiff, Nat.reduceLT, L_0, L_1, L_2, L_3, L_4, L_5, L_6, L_7, L_8, L_9, L_10, L_11, L_12, L_13, L_14, L_15, L_16, L_24, L_31, L_40, L_48, L_49, L_50, L_51, L_60, L_72, L_99, L_127, L_132, L_172, L_412, L_428, L_429, L_430, L_431, L_432, L_433, L_1000, nI_add, nI_mul, nI_leI, nI_ltI, nI_eq, m_cl, mInb_iff, nI_ng, ng_nI, ng_ng, nI_lt_ng, ng_lt_nI, nI_le_ng, ng_le_nI, show ¬ 24 ≤ i by omega]
      rw [if_pos (by omega)]
    · rw [mI_UI]
      by_cases q : j = 172 + 24 * t + i
      · rw [if_pos ⟨rfl, q⟩, if_pos (by omega)]
      · rw [if_neg (fun z => q z.2), hg j]
        by_cases q2 : 172 + 24 * t ≤ j ∧ j < 172 + 24 * t + i
        · rw [if_pos q2, if_pos (by omega)]
        · rw [if_neg q2, if_neg (by omega)]) (fun ν hJ => by
    simp (disch := omega) only [s173L20, Option.bind_some, Sum.elim_inl, Sum.elim_inr, reduceIte, if_true, if_false, ite_true, ite_false, not_true_eq_false, not_false_eq_true, or_true, true_or, or_false, false_or, and_true, true_and, and_false, false_and, eq_self, ne_eq, Nat.reduceAdd, Nat.reduceMul, Nat.le_refl, ite_self, Nat.reduceEqDiff, Nat.reduceLeDiff, Nat.reduceLT, L_0, L_1, L_2, L_3, L_4, L_5, L_6, L_7, L_8, L_9, L_10, L_11, L_12, L_13, L_14, L_15, L_16, L_24, L_31, L_40, L_48, L_49, L_50, L_51, L_60, L_72, L_99, L_127, L_132, L_172, L_412, L_428, L_429, L_430, L_431, L_432, L_433, L_1000, nI_add, nI_mul, nI_leI, nI_ltI, nI_eq, m_cl, mInb_iff, nI_ng, ng_nI, ng_ng, nI_lt_ng, ng_lt_nI, nI_le_ng, ng_le_nI]) ⟨Fr.refl _ _ _, fun j => by rw [if_neg (by omega)]⟩ (n := 1000) (by omega)
  have hf := f1.trans f2
  refine ⟨μ2, ?_, ⟨hM.1.fr hf, ?_⟩, hf⟩
  · simp (disch := omega) only [s173, Option.bind_some, Sum.elim_inl, Sum.elim_inr, reduceIte, if_true, if_false, ite_true, ite_false, not_true_eq_false, not_false_eq_true, or_true, true_or, or_false, false_or, and_true, true_and, and_false, false_and, eq_self, ne_eq, Nat.reduceAdd, Nat.reduceMul, Nat.le_refl, ite_self, Nat.reduceEqDiff, Nat.reduceLeDiff, Nat.reduceLT, L_0, L_1, L_2, L_3, L_4, L_5, L_6, L_7, L_8, L_9, L_10, L_11, L_12, L_13, L_14, L_15, L_16, L_24, L_31, L_40, L_48, L_49, L_50, L_51, L_60, L_72, L_99, L_127, L_132, L_172, L_412, L_428, L_429, L_430, L_431, L_432, L_433, L_1000, nI_add, nI_mul, nI_leI, nI_ltI, nI_eq, m_cl, mInb_iff, nI_ng, ng_nI, ng_ng, nI_lt_ng, ng_lt_nI, nI_le_ng, ng_le_nI, e1, e2]
  · obtain ⟨h1, h2, h3, h4, h5, h6, h7⟩ := hM.2
    refine ⟨fun a b c e => ?_, fun a b c e => ?_, fun a b c e g i => ?_, fun a b c e g i j l => ?_, fun a b c e => ?_, fun a b => ?_, ?_⟩
    · rw [g2, if_neg (by omega), g1, if_neg (by omega)]; exact h1 a b c e
    · rw [g2, if_neg (by omega), g1, if_neg (by omega)]; exact h2 a b c e
    · rw [g2, if_neg (by omega), g1, aW_clr]
      by_cases q : a = t
      · rw [if_pos (by omega), if_pos q]
      · rw [if_neg (by omega), if_neg q]; exact h3 a b c e g i
    · rw [g2, aW_clr]
      by_cases q : a = t
      · rw [if_pos (by omega), if_pos q]
      · rw [if_neg (by omega), if_neg q, g1, if_neg (by omega)]; exact h4 a b c e g i j l
    · rw [g2, if_neg (by omega), g1, if_neg (by omega)]; exact h5 a b c e
    · rw [g2, if_neg (by omega), g1, if_neg (by omega)]; exact h6 a b
    · rw [(hf.2 202 (by omega)).2]; exact h7
theorem k172 (hM : RS μ A) (htt : t < 10) : ∃ μ', s172 μ 200 (nI t) = some (nI (lostN A t), μ') ∧ RS μ' (shutA A t) ∧ Fr 201 202 μ μ' := by
  have hR := hM.1
  have inner : ∀ d a, d < 2 → mLoop (s172L4L24 μ 200 (nI t) (nI d)) 1000 (nI a, nI 0) = some (.inl (nI (a + celN A t d))) := by
    intro d a hd
    have e := mLoop_rp (b := s172L4L24 μ 200 (nI t) (nI d)) (fun i x => (x, nI i)) (fun h x => x + nI (aW A t d h 2)) 4 (a := nI a) (o := fun x => .inl x) (fun i x hi => by
      have e2 := hM.2.2.2.2.1 t d i 2 htt hd hi (by omega)
      simp (disch := omega) only [s172L4L24, s163, RefL.s hR, RefL.r0 hR, RefL.r1 hR, RefL.r2 hR, RefL.r3 hR, RefL.r4 hR, RefL.r5 hR, RefL.r7 hR, RefL.r8 hR, RefL.r9 hR, RefL.r10 hR, RefL.r12 hR, RefL.r13 hR, RefL.r14 hR, RefL.r15 hR, RefL.r16 hR, RefL.r17 hR, RefL.r18 hR, RefL.r19 hR, RefL.a0 hR, RefL.a1 hR, RefL.a2 hR, RefL.a3 hR, RefL.a4 hR, RefL.a5 hR, RefL.a7 hR, RefL.a8 hR, RefL.a9 hR, RefL.a10 hR, RefL.a12 hR, RefL.a13 hR, RefL.a14 hR, RefL.a15 hR, RefL.a16 hR, RefL.a17 hR, RefL.a18 hR, RefL.a19 hR, Option.bind_some, Sum.elim_inl, Sum.elim_inr, reduceIte, if_true, if_false, ite_true, ite_false, not_true_eq_false, not_false_eq_true, or_true, true_or, or_false, false_or, and_true, true_and, and_false, false_and, eq_self, ne_eq, Nat.reduceAdd, Nat.reduceMul, Nat.le_refl, ite_self, Nat.reduceEqDiff, Nat.reduceLeDiff, Nat.reduceLT, L_0, L_1, L_2, L_3, L_4, L_5, L_6, L_7, L_8, L_9, L_10, L_11, L_12, L_13, L_14, L_15, L_16, L_24, L_31, L_40, L_48, L_49, L_50, L_51, L_60, L_72, L_99, L_127, L_132, L_172, L_412, L_428, L_429, L_430, L_431, L_432, L_433, L_1000, nI_add, nI_mul, nI_leI, nI_ltI, nI_eq, m_cl, mInb_iff, nI_ng, ng_nI, ng_ng, nI_lt_ng, ng_lt_nI, nI_le_ng, ng_le_nI, show ¬ 4 ≤ i by omega, e2]
      rw [if_pos (by omega)]) (fun x => by
      simp (disch := omega) only [s172L4L24, Option.bind_some, Sum.elim_inl, Sum.elim_inr, reduceIte, if_true, if_false, ite_true, ite_false, not_true_eq_false, not_false_eq_true, or_true, true_or, or_false, false_or, and_true, true_and, and_false, false_and, eq_self, ne_eq, Nat.reduceAdd, Nat.reduceMul, Nat.le_refl, ite_self, Nat.reduceEqDiff, Nat.reduceLeDiff, Nat.reduceLT, L_0, L_1, L_2, L_3, L_4, L_5, L_6, L_7, L_8, L_9, L_10, L_11, L_12, L_13, L_14, L_15, L_16, L_24, L_31, L_40, L_48, L_49, L_50, L_51, L_60, L_72, L_99, L_127, L_132, L_172, L_412, L_428, L_429, L_430, L_431, L_432, L_433, L_1000, nI_add, nI_mul, nI_leI, nI_ltI, nI_eq, m_cl, mInb_iff, nI_ng, ng_nI, ng_ng, nI_lt_ng, ng_lt_nI, nI_le_ng, ng_le_nI]) (n := 1000) (by omega)
    rw [rp_sum] at e
    exact e
  have outer : mLoop (s172L4 μ 200 (nI t)) 1000 (nI 0, nI 0) = some (.inl (nI (lostN A t))) := mLoop_seq0 (b := s172L4 μ 200 (nI t)) (fun i => (nI (sumN (fun d => aW A t d 4 0 + celN A t d) i), nI i)) 2 (fun i hi => by
    have e2 := hM.2.2.2.1 t i 0 htt hi (by omega)
    rw [Nat.add_zero] at e2
    have e3 := fun a => inner i a hi
    have e4 : 132 + 4 * t + 2 * i < 433 := by omega
    have e5 : sumN (fun d => aW A t d 4 0 + celN A t d) (i + 1) = sumN (fun d => aW A t d 4 0 + celN A t d) i + aW A t i 4 0 + celN A t i := by
      show _ + (_ + _) = _; omega
    rw [e5]
    simp (disch := omega) only [s172L4, RefL.s hR, RefL.r0 hR, RefL.r1 hR, RefL.r2 hR, RefL.r3 hR, RefL.r4 hR, RefL.r5 hR, RefL.r7 hR, RefL.r8 hR, RefL.r9 hR, RefL.r10 hR, RefL.r12 hR, RefL.r13 hR, RefL.r14 hR, RefL.r15 hR, RefL.r16 hR, RefL.r17 hR, RefL.r18 hR, RefL.r19 hR, RefL.a0 hR, RefL.a1 hR, RefL.a2 hR, RefL.a3 hR, RefL.a4 hR, RefL.a5 hR, RefL.a7 hR, RefL.a8 hR, RefL.a9 hR, RefL.a10 hR, RefL.a12 hR, RefL.a13 hR, RefL.a14 hR, RefL.a15 hR, RefL.a16 hR, RefL.a17 hR, RefL.a18 hR, RefL.a19 hR, Option.bind_some, Sum.elim_inl, Sum.elim_inr, reduceIte, if_true, if_false, ite_true, ite_false, not_true_eq_false, not_false_eq_true, or_true, true_or, or_false, false_or, and_true, true_and, and_false, false_and, eq_self, ne_eq, Nat.reduceAdd, Nat.reduceMul, Nat.le_refl, ite_self, Nat.reduceEqDiff, Nat.reduceLeDiff, Nat.reduceLT, L_0, L_1, L_2, L_3, L_4, L_5, L_6, L_7, L_8, L_9, L_10, L_11, L_12, L_13, L_14, L_15, L_16, L_24, L_31, L_40, L_48, L_49, L_50, L_51, L_60, L_72, L_99, L_127, L_132, L_172, L_412, L_428, L_429, L_430, L_431, L_432, L_433, L_1000, nI_add, nI_mul, nI_leI, nI_ltI, nI_eq, m_cl, mInb_iff, nI_ng, ng_nI, ng_ng, nI_lt_ng, ng_lt_nI, nI_le_ng, ng_le_nI, show ¬ 2 ≤ i by omega, e2, e3, e4]) (by
    simp (disch := omega) only [s172L4, Option.bind_some, Sum.elim_inl, Sum.elim_inr, reduceIte, if_true, if_false, ite_true, ite_false, not_true_eq_false, not_false_eq_true, or_true, true_or, or_false, false_or, and_true, true_and, and_false, false_and, eq_self, ne_eq, Nat.reduceAdd, Nat.reduceMul, Nat.le_refl, ite_self, Nat.reduceEqDiff, Nat.reduceLeDiff, Nat.reduceLT, L_0, L_1, L_2, L_3, L_4, L_5, L_6, L_7, L_8, L_9, L_10, L_11, L_12, L_13, L_14, L_15, L_16, L_24, L_31, L_40, L_48, L_49, L_50, L_51, L_60, L_72, L_99, L_127, L_132, L_172, L_412, L_428, L_429, L_430, L_431, L_432, L_433, L_1000, nI_add, nI_mul, nI_leI, nI_ltI, nI_eq, m_cl, mInb_iff, nI_ng, ng_nI, ng_ng, nI_lt_ng, ng_lt_nI, nI_le_ng, ng_le_nI]; rfl) (n := 1000) (by omega)
  have a1 := k160 (v := 0) hM htt (k := 0) (by omega)
  have hM1 := RS.uT (v := 0) (k := 0) hM htt (by omega)
  have hf1 : Fr 201 202 μ (mUI μ 201 (72 + 6 * t + 0) (nI 0)) := Fr_UI μ (by omega) (by omega) _ _
  generalize mUI μ 201 (72 + 6 * t + 0) (nI 0) = μ1 at *
  obtain ⟨μ2, b1, b2, b3⟩ := k173 (t := t) hM1 htt
  have c2 := b2.2.2.2.2.2.2.1 2 (by omega)
  simp only [Nat.reduceAdd] at c2
  have c3 : aC (clr (setT A t 0 0) t) 2 = aC A 2 := rfl
  rw [c3] at c2
  refine ⟨mUI μ2 201 430 (nI (aC A 2 + lostN A t)), ?_, RS.uC (k := 2) b2 (by omega), (hf1.trans b3).trans (Fr_UI μ2 (by omega) (by omega) _ _)⟩
  have r1 := RefL.s hM1.1
  have r2 := RefL.s b2.1
  have r3 := RefL.r0 b2.1
  have r4 := RefL.a0 b2.1
  simp (disch := omega) only [s172, RefL.s hR, RefL.r0 hR, RefL.r1 hR, RefL.r2 hR, RefL.r3 hR, RefL.r4 hR, RefL.r5 hR, RefL.r7 hR, RefL.r8 hR, RefL.r9 hR, RefL.r10 hR, RefL.r12 hR, RefL.r13 hR, RefL.r14 hR, RefL.r15 hR, RefL.r16 hR, RefL.r17 hR, RefL.r18 hR, RefL.r19 hR, RefL.a0 hR, RefL.a1 hR, RefL.a2 hR, RefL.a3 hR, RefL.a4 hR, RefL.a5 hR, RefL.a7 hR, RefL.a8 hR, RefL.a9 hR, RefL.a10 hR, RefL.a12 hR, RefL.a13 hR, RefL.a14 hR, RefL.a15 hR, RefL.a16 hR, RefL.a17 hR, RefL.a18 hR, RefL.a19 hR, Option.bind_some, Sum.elim_inl, Sum.elim_inr, reduceIte, if_true, if_false, ite_true, ite_false, not_true_eq_false, not_false_eq_true, or_true, true_or, or_false, false_or, and_true, true_and, and_false, false_and, eq_self, ne_eq, Nat.reduceAdd, Nat.reduceMul, Nat.le_refl, ite_self, Nat.reduceEqDiff, Nat.reduceLeDiff, Nat.reduceLT, L_0, L_1, L_2, L_3, L_4, L_5, L_6, L_7, L_8, L_9, L_10, L_11, L_12, L_13, L_14, L_15, L_16, L_24, L_31, L_40, L_48, L_49, L_50, L_51, L_60, L_72, L_99, L_127, L_132, L_172, L_412, L_428, L_429, L_430, L_431, L_432, L_433, L_1000, nI_add, nI_mul, nI_leI, nI_ltI, nI_eq, m_cl, mInb_iff, nI_ng, ng_nI, ng_ng, nI_lt_ng, ng_lt_nI, nI_le_ng, ng_le_nI, outer, a1, b1, r1, r2, r3, r4, c2]
theorem CS.clrT (hC : CS μ f A) (hw : WN A) (h0 : ¬ aT A t 0 = 1) : CS μ f (clr A t) := by
  have ne : ∀ a, aT (clr A t) a 0 = 1 → ¬ a = t := fun a z q => h0 (by rw [← q]; exact z)
  refine hC.ext rfl (fun _ _ _ => rfl) (fun _ => ⟨rfl, rfl⟩) (fun _ _ z => z) hC.b1 (fun _ _ => rfl) (fun a h1 ha hp => hC.b4 h1 ha hp) (fun a ha => hC.b5 ha) (fun a ha ho => hC.b6 ha ho) (fun a b ha ho hb => ?_) (fun a b c ha ho hb hc hh => ?_) hw
  · simp only [aW_clr, if_neg (ne a ho)]; exact ⟨trivial, trivial, (hC.b7 ha ho hb).2.2⟩
  · simp only [aW_clr, if_neg (ne a ho)]; exact ⟨trivial, (hC.b8 ha ho hb hh).2⟩
theorem WN.shut (hw : WN A) : WN (setT A t 0 0) := hw.cg rfl (fun a => ⟨by rw [aT_setT, if_neg (by omega)], by rw [aT_setT, if_neg (by omega)]⟩) (fun a _ z => by
  rw [aT_setT] at z
  by_cases q : a = t
  · rw [if_pos (by omega)] at z; omega
  · rw [if_neg (by omega)] at z; exact z)
theorem CS.shutT (hC : CS μ f A) (hw : WN A) (htt : t < 10) : CS (mUI (mUI μ (tu f t) 0 (nI 0)) f 5 (nI (aC A 2 + lostN A t))) f (shutA A t) := by
  have h1 := CS.shut hC hw htt
  have h2 := CS.clrT (t := t) h1 hw.shut (by rw [aT_setT, if_pos ⟨rfl, rfl⟩]; omega)
  exact CS.uC2 h2 (hw.shut.cg rfl (fun _ => ⟨rfl, rfl⟩) (fun _ _ z => z))
theorem FrF.shut (htt : t < 10) {x y : Int32} : FrF f μ (mUI (mUI μ (tu f t) 0 x) f 5 y) := (FrF_tu htt).trans FrF_f
theorem j50 (hC : CS μ f A) (ht : WFt A) (hu : WFu A) (htt : t < 10) (ho : aT A t 0 = 1) : s50 μ f (nI t) = some (nI (lostN A t), mUI (mUI μ (tu f t) 0 (nI 0)) f 5 (nI (aC A 2 + lostN A t))) := by
  have hF := hC.1
  have l1 : s17 μ f (nI t) = some (nI 1) := by rw [j17 hC htt (by omega), ho]; rfl
  have e1 : ¬ f = tu f t := by unfold tu; omega
  have e2 : aW A t 0 4 0 + celN A t 0 + aW A t 1 4 0 + celN A t 1 = lostN A t := by
    show _ = 0 + (aW A t 0 4 0 + celN A t 0) + (aW A t 1 4 0 + celN A t 1)
    omega
  simp (disch := omega) only [s50, s84, FabL.s0 hF, FabL.p0 hF, FabL.p1 hF, FabL.s1 hF, FabL.s2 hF, FabL.r hF, FabL.rs hF, FabL.rl hF, FabL.ls hF, FabL.l5 hF, FabL.l6 hF, FabL.l7 hF, FabL.l8 hF, FabL.q2 hF, FabL.q3 hF, FabL.q4 hF, FabL.q5 hF, FabL.tp hF, FabL.ts hF, FabL.td hF, FabL.tw hF, FabL.ws hF, FabL.w4 hF, FabL.w5 hF, FabL.w6 hF, FabL.w7 hF, FabL.w8 hF, FabL.v1 hF, FabL.v2 hF, FabL.v3 hF, FabL.v4 hF, FabL.v5 hF, l1, j92 hC ht hu, RepC.w2 hC.2, RepC.k5 hC.2, htt, e1, e2, mI_UI, Option.bind_some, Sum.elim_inl, Sum.elim_inr, reduceIte, if_true, if_false, ite_true, ite_false, not_true_eq_false, not_false_eq_true, or_true, true_or, or_false, false_or, and_true, true_and, and_false, false_and, eq_self, ne_eq, Nat.reduceAdd, Nat.reduceMul, Nat.le_refl, ite_self, Nat.reduceEqDiff, Nat.reduceLeDiff, Nat.reduceLT, L_0, L_1, L_2, L_3, L_4, L_5, L_6, L_7, L_8, L_9, L_10, L_11, L_12, L_13, L_14, L_15, L_16, L_24, L_31, L_40, L_48, L_49, L_50, L_51, L_60, L_72, L_99, L_127, L_132, L_172, L_412, L_428, L_429, L_430, L_431, L_432, L_433, L_1000, nI_add, nI_mul, nI_leI, nI_ltI, nI_eq, m_cl, mInb_iff, nI_ng, ng_nI, ng_ng, nI_lt_ng, ng_lt_nI, nI_le_ng, ng_le_nI]
/-- a tunnel closed: all is well still -/
theorem wfu_sh (hu : WFu A) (q1 : A'.1 = A.1) (q3 : ∀ a k, aT A' a k = if a = t ∧ k = 0 then 0 else aT A a k) (q4 : ∀ a b c e, ¬ a = t → aW A' a b c e = aW A a b c e) (q5 : aC A' 3 = aC A 3) : WFu A' := by
  have e0 : ∀ r k, aR A' r k = aR A r k := fun r k => by show A'.1 r k = _; rw [q1]
  have g0 : ∀ a, aT A' a 0 = 1 → ¬ a = t ∧ aT A a 0 = 1 := fun a z => by
    rw [q3] at z
    by_cases q : a = t
    · rw [if_pos ⟨q, rfl⟩] at z; omega
    · rw [if_neg (fun y => q y.1)] at z; exact ⟨q, z⟩
  have gk : ∀ a k, ¬ k = 0 → aT A' a k = aT A a k := fun a k hk => by rw [q3, if_neg (fun y => hk y.2)]
  have gn : ∀ a d, wN A' a d = wN A a d := fun a d => wN_cg (fun r => e0 r 3) (gk a 1 (by omega)) (gk a 2 (by omega))
  have gus : ∀ a r, us A' a r 0 = true → us A a r 0 = true := fun a r z => by
    obtain ⟨z1, z2, z3⟩ := us_iff.mp z
    rw [gk a 2 (by omega), onb_cg (A := A) (fun r => e0 r 3)] at z2
    exact us_iff.mpr ⟨(g0 a z1).2, z2, Or.inl rfl⟩
  refine ⟨fun a ha => ?_, by rw [q5]; exact hu.2.1, fun a ha ho => ?_, fun r h1 hr hp => ?_, fun k hk => ?_⟩
  · rw [q3]; split
    · omega
    · exact hu.le1 ha
  · obtain ⟨hne, ho'⟩ := g0 a ho
    obtain ⟨o1, o2, o3, o4, o5, o6, o7, o8, o9, o10, o11, o12⟩ := hu.o ha ho'
    unfold WFo
    simp only [gk a 1 (by omega), gk a 2 (by omega), gk a 3 (by omega), gk a 4 (by omega), gn, e0, q4 a _ _ _ hne]
    exact ⟨o1, o2, o3, o4, o5, o6, o7, o8, o9, o10, o11, o12⟩
  · rw [e0] at hp
    have hv := hu.rsv h1 hr hp
    have : rsv A' r ≤ rsv A r := sumN_le (fun a ha => by
      show (if us A' a r 0 = true ∧ aT A' a 1 = 0 then aT A' a 4 else 0) ≤ (if us A a r 0 = true ∧ aT A a 1 = 0 then aT A a 4 else 0)
      rw [gk a 1 (by omega), gk a 4 (by omega)]
      by_cases z : us A' a r 0 = true ∧ aT A a 1 = 0
      · rw [if_pos z, if_pos ⟨gus a r z.1, z.2⟩]; exact Nat.le_refl _
      · rw [if_neg z]; exact Nat.zero_le _)
    rw [cap_cg (A := A) (fun r => e0 r 3) (fun r => e0 r 2) (e0 r 5)]
    omega
  · refine Nat.le_trans ?_ (hu.bay hk)
    exact sumN_le (fun a ha => by
      show (if aT A' a 0 = 1 ∧ aT A' a 1 = k then 1 else 0) ≤ (if aT A a 0 = 1 ∧ aT A a 1 = k then 1 else 0)
      rw [gk a 1 (by omega)]
      by_cases z : aT A' a 0 = 1 ∧ aT A a 1 = k
      · rw [if_pos z, if_pos ⟨(g0 a z.1).2, z.2⟩]; exact Nat.le_refl _
      · rw [if_neg z]; exact Nat.zero_le _)
theorem wfu_shut (hu : WFu A) : WFu (shutA A t) := wfu_sh (t := t) hu rfl (fun _ _ => rfl) (fun a b c e h => by rw [shutA_eq.2.2.2, if_neg h]) rfl
theorem SZ.shut (hz : SZ (mI μ) f A) (hf : FrF f μ μ') : SZ (mI μ') f (shutA A t) := hz.cg hf rfl (fun a => ⟨by rw [shutA_eq.2.2.1, if_neg (by omega)], by rw [shutA_eq.2.2.1, if_neg (by omega)]⟩) (fun a _ z => by
  rw [shutA_eq.2.2.1] at z
  by_cases q : a = t
  · rw [if_pos (by omega)] at z; omega
  · rw [if_neg (by omega)] at z; exact z)
theorem SZ.dst (hz : SZ (mI μ) f A) (hf : FrF f μ μ') : SZ (mI μ') f (dist A) := hz.cg hf dN_eq.1 (fun a => ⟨dN_eq.2.2 a 1 (by omega), dN_eq.2.2 a 2 (by omega)⟩) (fun a _ z => by rw [← z]; exact (dN_eq.2.2 a 0 (by omega)).symm)
theorem ClsL.fr {lo hi : Nat} {ν : mM} (hK : ClsL (mS μ) (mP μ)) (hf : Fr lo hi μ ν) : ClsL (mS ν) (mP ν) := by rw [hf.S, hf.P]; exact hK
theorem tun1 (hC : CS μ f A) (htt : t < 10) (ho : aT A t 0 = 1) : s17 μ f (nI t) = some (nI 1) := by rw [j17 hC htt (by omega), ho]; rfl
theorem tun2 (hM : RS μ A) (htt : t < 10) (ho : aT A t 0 = 1) : s161 μ 200 (nI t) = some (nI 1) := by rw [k161 hM htt (by omega), ho]; rfl
variable {L : Nat} {xs : Nat → Int32}
theorem op14 : Op14 (Inv L xs) := fun x => CI_op fun μ A hS hZ => by
  obtain ⟨hK, hC, hM, ht, hu⟩ := hS
  have hR := hM.1
  have hF := hC.1
  rcases tun hC hM hu x with ⟨t, rfl, htt, ho, l1, l2⟩ | ⟨l1, l2⟩
  · have hw := WN.of ht hu
    have c1 := j50 hC ht hu htt ho
    have c2 := CS.shutT hC hw htt
    have hf : FrF 11 μ _ := FrF.shut (μ := μ) (f := 11) (t := t) (x := nI 0) (y := nI (aC A 2 + lostN A t)) htt
    generalize mUI (mUI μ (tu 11 t) 0 (nI 0)) 11 5 (nI (aC A 2 + lostN A t)) = μ1 at *
    have ht1 : WFt (shutA A t) := ht.cg rfl rfl
    have hu1 : WFu (shutA A t) := wfu_shut hu
    obtain ⟨μ2, c3, c4, c5⟩ := j34 c2 ht1 hu1
    have hf2 := hf.trans c5.F
    have hM2 := hf2.C.rs hM
    obtain ⟨μ3, d1, d2, d3⟩ := k172 hM2 htt
    obtain ⟨μ4, d4, d5, d6⟩ := k171 d2 ht1 hu1
    obtain ⟨w1, w2⟩ := dN_wf (n := 10) (o := -nI 1) ht1 hu1
    have hK1 := hK.fr hf.1
    have l3 := tun2 hM2 htt ho
    have r2 := RefL.s hM2.1
    have r3 := RefL.s d2.1
    have s1 := ClsL.s hK1
    have s2 := ClsL.p1 hK1
    have s3 := FabL.s0 c2.1
    refine ⟨nI (lostN A t), μ2, μ4, dist (shutA A t), ?_, hf2.C, c4, (hZ.shut hf).dst c5.F, ?_, Fr.R (d3.trans d6) (by omega), d5, w1, w2⟩
    · simp (disch := omega) only [s111, ClsL.s hK, ClsL.p0 hK, ClsL.p1 hK, ClsL.p2 hK, ClsL.p3 hK, ClsL.p4 hK, ClsL.p5 hK, ClsL.s192 hK, ClsL.s199 hK, FabL.s0 hF, FabL.p0 hF, FabL.p1 hF, FabL.s1 hF, FabL.s2 hF, FabL.r hF, FabL.rs hF, FabL.rl hF, FabL.ls hF, FabL.l5 hF, FabL.l6 hF, FabL.l7 hF, FabL.l8 hF, FabL.q2 hF, FabL.q3 hF, FabL.q4 hF, FabL.q5 hF, FabL.tp hF, FabL.ts hF, FabL.td hF, FabL.tw hF, FabL.ws hF, FabL.w4 hF, FabL.w5 hF, FabL.w6 hF, FabL.w7 hF, FabL.w8 hF, FabL.v1 hF, FabL.v2 hF, FabL.v3 hF, FabL.v4 hF, FabL.v5 hF, l1, c1, c3, s1, s2, s3, Option.bind_some, Sum.elim_inl, Sum.elim_inr, reduceIte, if_true, if_false, ite_true, ite_false, not_true_eq_false, not_false_eq_true, or_true, true_or, or_false, false_or, and_true, true_and, and_false, false_and, eq_self, ne_eq, Nat.reduceAdd, Nat.reduceMul, Nat.le_refl, ite_self, Nat.reduceEqDiff, Nat.reduceLeDiff, Nat.reduceLT, L_0, L_1, L_2, L_3, L_4, L_5, L_6, L_7, L_8, L_9, L_10, L_11, L_12, L_13, L_14, L_15, L_16, L_24, L_31, L_40, L_48, L_49, L_50, L_51, L_60, L_72, L_99, L_127, L_132, L_172, L_412, L_428, L_429, L_430, L_431, L_432, L_433, L_1000, nI_add, nI_mul, nI_leI, nI_ltI, nI_eq, m_cl, mInb_iff, nI_ng, ng_nI, ng_ng, nI_lt_ng, ng_lt_nI, nI_le_ng, ng_le_nI]
    · simp (disch := omega) only [s201, r2, r3, l3, d1, d4, Option.bind_some, Sum.elim_inl, Sum.elim_inr, reduceIte, if_true, if_false, ite_true, ite_false, not_true_eq_false, not_false_eq_true, or_true, true_or, or_false, false_or, and_true, true_and, and_false, false_and, eq_self, ne_eq, Nat.reduceAdd, Nat.reduceMul, Nat.le_refl, ite_self, Nat.reduceEqDiff, Nat.reduceLeDiff, Nat.reduceLT, L_0, L_1, L_2, L_3, L_4, L_5, L_6, L_7, L_8, L_9, L_10, L_11, L_12, L_13, L_14, L_15, L_16, L_24, L_31, L_40, L_48, L_49, L_50, L_51, L_60, L_72, L_99, L_127, L_132, L_172, L_412, L_428, L_429, L_430, L_431, L_432, L_433, L_1000, nI_add, nI_mul, nI_leI, nI_ltI, nI_eq, m_cl, mInb_iff, nI_ng, ng_nI, ng_ng, nI_lt_ng, ng_lt_nI, nI_le_ng, ng_le_nI]
  · refine ⟨-nI 1, μ, μ, A, ?_, FrC.refl _, hC, hZ, ?_, FrR.refl _, hM, ht, hu⟩
    · simp (disch := omega) only [s111, ClsL.s hK, ClsL.p0 hK, ClsL.p1 hK, ClsL.p2 hK, ClsL.p3 hK, ClsL.p4 hK, ClsL.p5 hK, ClsL.s192 hK, ClsL.s199 hK, FabL.s0 hF, FabL.p0 hF, FabL.p1 hF, FabL.s1 hF, FabL.s2 hF, FabL.r hF, FabL.rs hF, FabL.rl hF, FabL.ls hF, FabL.l5 hF, FabL.l6 hF, FabL.l7 hF, FabL.l8 hF, FabL.q2 hF, FabL.q3 hF, FabL.q4 hF, FabL.q5 hF, FabL.tp hF, FabL.ts hF, FabL.td hF, FabL.tw hF, FabL.ws hF, FabL.w4 hF, FabL.w5 hF, FabL.w6 hF, FabL.w7 hF, FabL.w8 hF, FabL.v1 hF, FabL.v2 hF, FabL.v3 hF, FabL.v4 hF, FabL.v5 hF, l1, Option.bind_some, Sum.elim_inl, Sum.elim_inr, reduceIte, if_true, if_false, ite_true, ite_false, not_true_eq_false, not_false_eq_true, or_true, true_or, or_false, false_or, and_true, true_and, and_false, false_and, eq_self, ne_eq, Nat.reduceAdd, Nat.reduceMul, Nat.le_refl, ite_self, Nat.reduceEqDiff, Nat.reduceLeDiff, Nat.reduceLT, L_0, L_1, L_2, L_3, L_4, L_5, L_6, L_7, L_8, L_9, L_10, L_11, L_12, L_13, L_14, L_15, L_16, L_24, L_31, L_40, L_48, L_49, L_50, L_51, L_60, L_72, L_99, L_127, L_132, L_172, L_412, L_428, L_429, L_430, L_431, L_432, L_433, L_1000, nI_add, nI_mul, nI_leI, nI_ltI, nI_eq, m_cl, mInb_iff, nI_ng, ng_nI, ng_ng, nI_lt_ng, ng_lt_nI, nI_le_ng, ng_le_nI]
    · simp (disch := omega) only [s201, RefL.s hR, RefL.r0 hR, RefL.r1 hR, RefL.r2 hR, RefL.r3 hR, RefL.r4 hR, RefL.r5 hR, RefL.r7 hR, RefL.r8 hR, RefL.r9 hR, RefL.r10 hR, RefL.r12 hR, RefL.r13 hR, RefL.r14 hR, RefL.r15 hR, RefL.r16 hR, RefL.r17 hR, RefL.r18 hR, RefL.r19 hR, RefL.a0 hR, RefL.a1 hR, RefL.a2 hR, RefL.a3 hR, RefL.a4 hR, RefL.a5 hR, RefL.a7 hR, RefL.a8 hR, RefL.a9 hR, RefL.a10 hR, RefL.a12 hR, RefL.a13 hR, RefL.a14 hR, RefL.a15 hR, RefL.a16 hR, RefL.a17 hR, RefL.a18 hR, RefL.a19 hR, l2, Option.bind_some, Sum.elim_inl, Sum.elim_inr, reduceIte, if_true, if_false, ite_true, ite_false, not_true_eq_false, not_false_eq_true, or_true, true_or, or_false, false_or, and_true, true_and, and_false, false_and, eq_self, ne_eq, Nat.reduceAdd, Nat.reduceMul, Nat.le_refl, ite_self, Nat.reduceEqDiff, Nat.reduceLeDiff, Nat.reduceLT, L_0, L_1, L_2, L_3, L_4, L_5, L_6, L_7, L_8, L_9, L_10, L_11, L_12, L_13, L_14, L_15, L_16, L_24, L_31, L_40, L_48, L_49, L_50, L_51, L_60, L_72, L_99, L_127, L_132, L_172, L_412, L_428, L_429, L_430, L_431, L_432, L_433, L_1000, nI_add, nI_mul, nI_leI, nI_ltI, nI_eq, m_cl, mInb_iff, nI_ng, ng_nI, ng_ng, nI_lt_ng, ng_lt_nI, nI_le_ng, ng_le_nI]
theorem op15 : Op15 (Inv L xs) := fun x y => CI_op fun μ A hS hZ => by
  obtain ⟨hK, hC, hM, ht, hu⟩ := hS
  have hR := hM.1
  have hF := hC.1
  rcases tun hC hM hu x with ⟨t, rfl, htt, ho, l1, l2⟩ | ⟨l1, l2⟩
  · obtain ⟨o1, o2, o3, o4, o5, o6, o7, o8, -⟩ := hu.o htt ho
    rcases btw μ y 1 12 (by omega) (by omega) with ⟨w, rfl, hw1, hw2, b1, b2⟩ | ⟨-, b1, b2⟩
    · by_cases e : aT A t 1 = 0
      · have hw := WN.of ht hu
        have c1 := CS.uT3 (v := w) hC hw htt
        have hwn : WN (setT A t 3 w) := hw.cg rfl (fun a => ⟨by rw [aT_setT, if_neg (by omega)], by rw [aT_setT, if_neg (by omega)]⟩) (fun a _ z => by rw [aT_setT, if_neg (by omega)] at z; exact z)
        have c2 := CS.uT4 (v := min (aT A t 4) w) c1 hwn htt
        have ht1 : WFt (setT (setT A t 3 w) t 4 (min (aT A t 4) w)) := ht.cg rfl rfl
        have hu1 : WFu (setT (setT A t 3 w) t 4 (min (aT A t 4) w)) := wfu_setG hu htt ho hw1 hw2 (by omega) (fun r h1 hr hp => by
          have hv := hu.rsv h1 hr hp
          have e := rsv_setG (A := A) (r := r) (v := min (aT A t 4) w) htt
          by_cases e2 : us A t r 0 = true ∧ aT A t 1 = 0
          · rw [if_pos e2, if_pos e2] at e; omega
          · rw [if_neg e2, if_neg e2] at e; omega)
        have hf : FrF 11 μ (mUI (mUI μ (tu 11 t) 3 (nI w)) (tu 11 t) 4 (nI (min (aT A t 4) w))) := (FrF_tu htt).trans (FrF_tu htt)
        obtain ⟨μ2, c3, c4, c5⟩ := j34 c2 ht1 hu1
        have hf2 := hf.trans c5.F
        have hM2 := hf2.C.rs hM
        have d1 := k160 (v := w) hM2 htt (k := 3) (by omega)
        have d2 := RS.uT (v := w) (k := 3) hM2 htt (by omega)
        have d3 := k159 d2 htt (k := 4) (by omega)
        rw [aT_setT, if_neg (by omega)] at d3
        have d4 := k160 (v := min (aT A t 4) w) d2 htt (k := 4) (by omega)
        have d5 := RS.uT (v := min (aT A t 4) w) (k := 4) d2 htt (by omega)
        have g1 : Fr 201 202 μ2 (mUI (mUI μ2 201 (72 + 6 * t + 3) (nI w)) 201 (72 + 6 * t + 4) (nI (min (aT A t 4) w))) := (Fr_UI μ2 (by omega) (by omega) _ _).trans (Fr_UI _ (by omega) (by omega) _ _)
        have r3 := RefL.s d2.1
        have r4 := RefL.s d5.1
        have q2 := k145 (μ := mUI μ2 201 (72 + 6 * t + 3) (nI w)) (a := aT A t 4) (b := w) (by omega) (by omega)
        generalize mUI (mUI μ2 201 (72 + 6 * t + 3) (nI w)) 201 (72 + 6 * t + 4) (nI (min (aT A t 4) w)) = μ3 at *
        generalize mUI μ2 201 (72 + 6 * t + 3) (nI w) = μ2' at *
        obtain ⟨μ4, d6, d7, d8⟩ := k171 d5 ht1 hu1
        obtain ⟨w1, w2⟩ := dN_wf (n := 10) (o := -nI 1) ht1 hu1
        have d9 := k159 d7 htt (k := 4) (by omega)
        have hoD : aT (dist (setT (setT A t 3 w) t 4 (min (aT A t 4) w))) t 0 = 1 := by
          show aT (dN 10 (-nI 1) _) t 0 = 1
          rw [dN_eq.2.2 t 0 (by omega), aT_setT, if_neg (by omega), aT_setT, if_neg (by omega)]; exact ho
        have c6 := RepC.t4 c4.2 htt hoD
        have l3 := tun2 hM2 htt ho
        have q1 : s144 μ2 (nI w) (nI 1) (nI 12) = some (nI 1) := by rw [k144 (by omega) (by omega) (by omega)]; simp [hw1, hw2, bI]
        have r2 := RefL.s hM2.1
        have r5 := RefL.s d7.1
        have z1 := k159 hM2 htt (k := 1) (by omega)
        rw [e] at z1
        have z2 := RepC.t1 hC.2 htt ho
        rw [e] at z2
        have hK1 := hK.fr hf.1
        have s1 := ClsL.s hK1
        have s2 := ClsL.p1 hK1
        have s3 := FabL.s0 c2.1
        have s4 := FabL.ts c4.1 htt
        have s5 := mMin_nI (a := aT A t 4) (b := w) (by omega) (by omega)
        have s6 : mI (mUI μ (tu 11 t) 3 (nI w)) (tu 11 t) 4 = nI (aT A t 4) := by rw [mI_UI, if_neg (by omega)]; exact RepC.t4 hC.2 htt ho
        refine ⟨nI (aT (dist (setT (setT A t 3 w) t 4 (min (aT A t 4) w))) t 4), μ2, μ4, dist (setT (setT A t 3 w) t 4 (min (aT A t 4) w)), ?_, hf2.C, c4, ?_, ?_, Fr.R (g1.trans d8) (by omega), d7, w1, w2⟩
        · simp (disch := omega) only [s112_10, s112, ClsL.s hK, ClsL.p0 hK, ClsL.p1 hK, ClsL.p2 hK, ClsL.p3 hK, ClsL.p4 hK, ClsL.p5 hK, ClsL.s192 hK, ClsL.s199 hK, FabL.s0 hF, FabL.p0 hF, FabL.p1 hF, FabL.s1 hF, FabL.s2 hF, FabL.r hF, FabL.rs hF, FabL.rl hF, FabL.ls hF, FabL.l5 hF, FabL.l6 hF, FabL.l7 hF, FabL.l8 hF, FabL.q2 hF, FabL.q3 hF, FabL.q4 hF, FabL.q5 hF, FabL.tp hF, FabL.ts hF, FabL.td hF, FabL.tw hF, FabL.ws hF, FabL.w4 hF, FabL.w5 hF, FabL.w6 hF, FabL.w7 hF, FabL.w8 hF, FabL.v1 hF, FabL.v2 hF, FabL.v3 hF, FabL.v4 hF, FabL.v5 hF, l1, b1, z2, htt, s6, s5, c3, c6, s1, s2, s3, s4, Option.bind_some, Sum.elim_inl, Sum.elim_inr, reduceIte, if_true, if_false, ite_true, ite_false, not_true_eq_false, not_false_eq_true, or_true, true_or, or_false, false_or, and_true, true_and, and_false, false_and, eq_self, ne_eq, Nat.reduceAdd, Nat.reduceMul, Nat.le_refl, ite_self, Nat.reduceEqDiff, Nat.reduceLeDiff, Nat.reduceLT, L_0, L_1, L_2, L_3, L_4, L_5, L_6, L_7, L_8, L_9, L_10, L_11, L_12, L_13, L_14, L_15, L_16, L_24, L_31, L_40, L_48, L_49, L_50, L_51, L_60, L_72, L_99, L_127, L_132, L_172, L_412, L_428, L_429, L_430, L_431, L_432, L_433, L_1000, nI_add, nI_mul, nI_leI, nI_ltI, nI_eq, m_cl, mInb_iff, nI_ng, ng_nI, ng_ng, nI_lt_ng, ng_lt_nI, nI_le_ng, ng_le_nI]
        · refine SZ.dst (SZ.cg hZ hf rfl (fun a => ⟨by rw [aT_setT, if_neg (by omega), aT_setT, if_neg (by omega)], by rw [aT_setT, if_neg (by omega), aT_setT, if_neg (by omega)]⟩) (fun a _ z => by rw [aT_setT, if_neg (by omega), aT_setT, if_neg (by omega)] at z; exact z)) c5.F
        · simp (disch := omega) only [s202_9, s202, r2, r3, r4, r5, l3, q1, z1, d1, d3, q2, d4, d6, d9, Option.bind_some, Sum.elim_inl, Sum.elim_inr, reduceIte, if_true, if_false, ite_true, ite_false, not_true_eq_false, not_false_eq_true, or_true, true_or, or_false, false_or, and_true, true_and, and_false, false_and, eq_self, ne_eq, Nat.reduceAdd, Nat.reduceMul, Nat.le_refl, ite_self, Nat.reduceEqDiff, Nat.reduceLeDiff, Nat.reduceLT, L_0, L_1, L_2, L_3, L_4, L_5, L_6, L_7, L_8, L_9, L_10, L_11, L_12, L_13, L_14, L_15, L_16, L_24, L_31, L_40, L_48, L_49, L_50, L_51, L_60, L_72, L_99, L_127, L_132, L_172, L_412, L_428, L_429, L_430, L_431, L_432, L_433, L_1000, nI_add, nI_mul, nI_leI, nI_ltI, nI_eq, m_cl, mInb_iff, nI_ng, ng_nI, ng_ng, nI_lt_ng, ng_lt_nI, nI_le_ng, ng_le_nI]
      · refine ⟨-nI 2, μ, μ, A, ?_, FrC.refl _, hC, hZ, ?_, FrR.refl _, hM, ht, hu⟩
        · simp (disch := omega) only [s112_10, s112, ClsL.s hK, ClsL.p0 hK, ClsL.p1 hK, ClsL.p2 hK, ClsL.p3 hK, ClsL.p4 hK, ClsL.p5 hK, ClsL.s192 hK, ClsL.s199 hK, FabL.s0 hF, FabL.p0 hF, FabL.p1 hF, FabL.s1 hF, FabL.s2 hF, FabL.r hF, FabL.rs hF, FabL.rl hF, FabL.ls hF, FabL.l5 hF, FabL.l6 hF, FabL.l7 hF, FabL.l8 hF, FabL.q2 hF, FabL.q3 hF, FabL.q4 hF, FabL.q5 hF, FabL.tp hF, FabL.ts hF, FabL.td hF, FabL.tw hF, FabL.ws hF, FabL.w4 hF, FabL.w5 hF, FabL.w6 hF, FabL.w7 hF, FabL.w8 hF, FabL.v1 hF, FabL.v2 hF, FabL.v3 hF, FabL.v4 hF, FabL.v5 hF, l1, b1, RepC.t1 hC.2, htt, e, Option.bind_some, Sum.elim_inl, Sum.elim_inr, reduceIte, if_true, if_false, ite_true, ite_false, not_true_eq_false, not_false_eq_true, or_true, true_or, or_false, false_or, and_true, true_and, and_false, false_and, eq_self, ne_eq, Nat.reduceAdd, Nat.reduceMul, Nat.le_refl, ite_self, Nat.reduceEqDiff, Nat.reduceLeDiff, Nat.reduceLT, L_0, L_1, L_2, L_3, L_4, L_5, L_6, L_7, L_8, L_9, L_10, L_11, L_12, L_13, L_14, L_15, L_16, L_24, L_31, L_40, L_48, L_49, L_50, L_51, L_60, L_72, L_99, L_127, L_132, L_172, L_412, L_428, L_429, L_430, L_431, L_432, L_433, L_1000, nI_add, nI_mul, nI_leI, nI_ltI, nI_eq, m_cl, mInb_iff, nI_ng, ng_nI, ng_ng, nI_lt_ng, ng_lt_nI, nI_le_ng, ng_le_nI]
        · simp (disch := omega) only [s202_9, s202, RefL.s hR, RefL.r0 hR, RefL.r1 hR, RefL.r2 hR, RefL.r3 hR, RefL.r4 hR, RefL.r5 hR, RefL.r7 hR, RefL.r8 hR, RefL.r9 hR, RefL.r10 hR, RefL.r12 hR, RefL.r13 hR, RefL.r14 hR, RefL.r15 hR, RefL.r16 hR, RefL.r17 hR, RefL.r18 hR, RefL.r19 hR, RefL.a0 hR, RefL.a1 hR, RefL.a2 hR, RefL.a3 hR, RefL.a4 hR, RefL.a5 hR, RefL.a7 hR, RefL.a8 hR, RefL.a9 hR, RefL.a10 hR, RefL.a12 hR, RefL.a13 hR, RefL.a14 hR, RefL.a15 hR, RefL.a16 hR, RefL.a17 hR, RefL.a18 hR, RefL.a19 hR, l2, b2, k159 hM, show ¬ aT A t 1 ≤ 0 by omega, Option.bind_some, Sum.elim_inl, Sum.elim_inr, reduceIte, if_true, if_false, ite_true, ite_false, not_true_eq_false, not_false_eq_true, or_true, true_or, or_false, false_or, and_true, true_and, and_false, false_and, eq_self, ne_eq, Nat.reduceAdd, Nat.reduceMul, Nat.le_refl, ite_self, Nat.reduceEqDiff, Nat.reduceLeDiff, Nat.reduceLT, L_0, L_1, L_2, L_3, L_4, L_5, L_6, L_7, L_8, L_9, L_10, L_11, L_12, L_13, L_14, L_15, L_16, L_24, L_31, L_40, L_48, L_49, L_50, L_51, L_60, L_72, L_99, L_127, L_132, L_172, L_412, L_428, L_429, L_430, L_431, L_432, L_433, L_1000, nI_add, nI_mul, nI_leI, nI_ltI, nI_eq, m_cl, mInb_iff, nI_ng, ng_nI, ng_ng, nI_lt_ng, ng_lt_nI, nI_le_ng, ng_le_nI]
    · refine ⟨-nI 1, μ, μ, A, ?_, FrC.refl _, hC, hZ, ?_, FrR.refl _, hM, ht, hu⟩
      · simp (disch := omega) only [s112_10, s112, ClsL.s hK, ClsL.p0 hK, ClsL.p1 hK, ClsL.p2 hK, ClsL.p3 hK, ClsL.p4 hK, ClsL.p5 hK, ClsL.s192 hK, ClsL.s199 hK, FabL.s0 hF, FabL.p0 hF, FabL.p1 hF, FabL.s1 hF, FabL.s2 hF, FabL.r hF, FabL.rs hF, FabL.rl hF, FabL.ls hF, FabL.l5 hF, FabL.l6 hF, FabL.l7 hF, FabL.l8 hF, FabL.q2 hF, FabL.q3 hF, FabL.q4 hF, FabL.q5 hF, FabL.tp hF, FabL.ts hF, FabL.td hF, FabL.tw hF, FabL.ws hF, FabL.w4 hF, FabL.w5 hF, FabL.w6 hF, FabL.w7 hF, FabL.w8 hF, FabL.v1 hF, FabL.v2 hF, FabL.v3 hF, FabL.v4 hF, FabL.v5 hF, l1, b1, Option.bind_some, Sum.elim_inl, Sum.elim_inr, reduceIte, if_true, if_false, ite_true, ite_false, not_true_eq_false, not_false_eq_true, or_true, true_or, or_false, false_or, and_true, true_and, and_false, false_and, eq_self, ne_eq, Nat.reduceAdd, Nat.reduceMul, Nat.le_refl, ite_self, Nat.reduceEqDiff, Nat.reduceLeDiff, Nat.reduceLT, L_0, L_1, L_2, L_3, L_4, L_5, L_6, L_7, L_8, L_9, L_10, L_11, L_12, L_13, L_14, L_15, L_16, L_24, L_31, L_40, L_48, L_49, L_50, L_51, L_60, L_72, L_99, L_127, L_132, L_172, L_412, L_428, L_429, L_430, L_431, L_432, L_433, L_1000, nI_add, nI_mul, nI_leI, nI_ltI, nI_eq, m_cl, mInb_iff, nI_ng, ng_nI, ng_ng, nI_lt_ng, ng_lt_nI, nI_le_ng, ng_le_nI]
      · simp (disch := omega) only [s202_9, s202, RefL.s hR, RefL.r0 hR, RefL.r1 hR, RefL.r2 hR, RefL.r3 hR, RefL.r4 hR, RefL.r5 hR, RefL.r7 hR, RefL.r8 hR, RefL.r9 hR, RefL.r10 hR, RefL.r12 hR, RefL.r13 hR, RefL.r14 hR, RefL.r15 hR, RefL.r16 hR, RefL.r17 hR, RefL.r18 hR, RefL.r19 hR, RefL.a0 hR, RefL.a1 hR, RefL.a2 hR, RefL.a3 hR, RefL.a4 hR, RefL.a5 hR, RefL.a7 hR, RefL.a8 hR, RefL.a9 hR, RefL.a10 hR, RefL.a12 hR, RefL.a13 hR, RefL.a14 hR, RefL.a15 hR, RefL.a16 hR, RefL.a17 hR, RefL.a18 hR, RefL.a19 hR, l2, b2, Option.bind_some, Sum.elim_inl, Sum.elim_inr, reduceIte, if_true, if_false, ite_true, ite_false, not_true_eq_false, not_false_eq_true, or_true, true_or, or_false, false_or, and_true, true_and, and_false, false_and, eq_self, ne_eq, Nat.reduceAdd, Nat.reduceMul, Nat.le_refl, ite_self, Nat.reduceEqDiff, Nat.reduceLeDiff, Nat.reduceLT, L_0, L_1, L_2, L_3, L_4, L_5, L_6, L_7, L_8, L_9, L_10, L_11, L_12, L_13, L_14, L_15, L_16, L_24, L_31, L_40, L_48, L_49, L_50, L_51, L_60, L_72, L_99, L_127, L_132, L_172, L_412, L_428, L_429, L_430, L_431, L_432, L_433, L_1000, nI_add, nI_mul, nI_leI, nI_ltI, nI_eq, m_cl, mInb_iff, nI_ng, ng_nI, ng_ng, nI_lt_ng, ng_lt_nI, nI_le_ng, ng_le_nI]
  · refine ⟨-nI 1, μ, μ, A, ?_, FrC.refl _, hC, hZ, ?_, FrR.refl _, hM, ht, hu⟩
    · simp (disch := omega) only [s112_10, s112, ClsL.s hK, ClsL.p0 hK, ClsL.p1 hK, ClsL.p2 hK, ClsL.p3 hK, ClsL.p4 hK, ClsL.p5 hK, ClsL.s192 hK, ClsL.s199 hK, FabL.s0 hF, FabL.p0 hF, FabL.p1 hF, FabL.s1 hF, FabL.s2 hF, FabL.r hF, FabL.rs hF, FabL.rl hF, FabL.ls hF, FabL.l5 hF, FabL.l6 hF, FabL.l7 hF, FabL.l8 hF, FabL.q2 hF, FabL.q3 hF, FabL.q4 hF, FabL.q5 hF, FabL.tp hF, FabL.ts hF, FabL.td hF, FabL.tw hF, FabL.ws hF, FabL.w4 hF, FabL.w5 hF, FabL.w6 hF, FabL.w7 hF, FabL.w8 hF, FabL.v1 hF, FabL.v2 hF, FabL.v3 hF, FabL.v4 hF, FabL.v5 hF, l1, Option.bind_some, Sum.elim_inl, Sum.elim_inr, reduceIte, if_true, if_false, ite_true, ite_false, not_true_eq_false, not_false_eq_true, or_true, true_or, or_false, false_or, and_true, true_and, and_false, false_and, eq_self, ne_eq, Nat.reduceAdd, Nat.reduceMul, Nat.le_refl, ite_self, Nat.reduceEqDiff, Nat.reduceLeDiff, Nat.reduceLT, L_0, L_1, L_2, L_3, L_4, L_5, L_6, L_7, L_8, L_9, L_10, L_11, L_12, L_13, L_14, L_15, L_16, L_24, L_31, L_40, L_48, L_49, L_50, L_51, L_60, L_72, L_99, L_127, L_132, L_172, L_412, L_428, L_429, L_430, L_431, L_432, L_433, L_1000, nI_add, nI_mul, nI_leI, nI_ltI, nI_eq, m_cl, mInb_iff, nI_ng, ng_nI, ng_ng, nI_lt_ng, ng_lt_nI, nI_le_ng, ng_le_nI]
    · simp (disch := omega) only [s202_9, s202, RefL.s hR, RefL.r0 hR, RefL.r1 hR, RefL.r2 hR, RefL.r3 hR, RefL.r4 hR, RefL.r5 hR, RefL.r7 hR, RefL.r8 hR, RefL.r9 hR, RefL.r10 hR, RefL.r12 hR, RefL.r13 hR, RefL.r14 hR, RefL.r15 hR, RefL.r16 hR, RefL.r17 hR, RefL.r18 hR, RefL.r19 hR, RefL.a0 hR, RefL.a1 hR, RefL.a2 hR, RefL.a3 hR, RefL.a4 hR, RefL.a5 hR, RefL.a7 hR, RefL.a8 hR, RefL.a9 hR, RefL.a10 hR, RefL.a12 hR, RefL.a13 hR, RefL.a14 hR, RefL.a15 hR, RefL.a16 hR, RefL.a17 hR, RefL.a18 hR, RefL.a19 hR, l2, Option.bind_some, Sum.elim_inl, Sum.elim_inr, reduceIte, if_true, if_false, ite_true, ite_false, not_true_eq_false, not_false_eq_true, or_true, true_or, or_false, false_or, and_true, true_and, and_false, false_and, eq_self, ne_eq, Nat.reduceAdd, Nat.reduceMul, Nat.le_refl, ite_self, Nat.reduceEqDiff, Nat.reduceLeDiff, Nat.reduceLT, L_0, L_1, L_2, L_3, L_4, L_5, L_6, L_7, L_8, L_9, L_10, L_11, L_12, L_13, L_14, L_15, L_16, L_24, L_31, L_40, L_48, L_49, L_50, L_51, L_60, L_72, L_99, L_127, L_132, L_172, L_412, L_428, L_429, L_430, L_431, L_432, L_433, L_1000, nI_add, nI_mul, nI_leI, nI_ltI, nI_eq, m_cl, mInb_iff, nI_ng, ng_nI, ng_ng, nI_lt_ng, ng_lt_nI, nI_le_ng, ng_le_nI]
/-- changes of links alone -/
theorem WFt.cgR (ht : WFt A) (h : ∀ r k, k ≤ 4 → aR A' r k = aR A r k) (h2 : ∀ r, 1 ≤ r → r < 8 → aR A r 0 = 1 → aR A' r 5 ≤ 1 ∧ aR A' r 6 ≤ 3 ∧ aR A' r 9 ≤ 10 ∧ aR A' r 10 ≤ 10 ∧ (aR A' r 6 = 3 → 1 ≤ aR A' r 8 ∧ aR A' r 8 ≤ 2) ∧ ∀ d, d < 2 → (aL A' r d).toNat ≤ 1065353216) : WFt A' := by
  have p3 : ∀ r, aR A' r 3 = aR A r 3 := fun r => h r 3 (by omega)
  have p2 : ∀ r, aR A' r 2 = aR A r 2 := fun r => h r 2 (by omega)
  have p1 : ∀ r, aR A' r 1 = aR A r 1 := fun r => h r 1 (by omega)
  have p0 : ∀ r, aR A' r 0 = aR A r 0 := fun r => h r 0 (by omega)
  have p4 : ∀ r, aR A' r 4 = aR A r 4 := fun r => h r 4 (by omega)
  unfold WFt
  simp only [p0, p1, p2, p3, p4]
  refine ⟨ht.1, ht.2.1, fun r h1 hr hp => ?_, ht.2.2.2⟩
  obtain ⟨w1, w2, w3, w4, w5, w6, w7, w8, -⟩ := ht.w h1 hr hp
  obtain ⟨v1, v2, v3, v4, v5, v6⟩ := h2 r h1 hr hp
  unfold WFr
  simp only [p0, p1, p2, p3, p4, dep_cg p3]
  exact ⟨w1, w2, w3, w4, w5, w6, w7, w8, v1, v2, v3, v4, v5, v6⟩
theorem wfu_cgR (hu : WFu A) (h : ∀ r k, k ≤ 4 → aR A' r k = aR A r k) (hT : A'.2.1 = A.2.1) (hW : A'.2.2.1 = A.2.2.1) (h3 : aC A' 3 ≤ 9 ∧ 1 ≤ aC A' 3) (hc : ∀ r, 1 ≤ r → r < 8 → aR A r 0 = 1 → rsv A r < cap A' r 0) : WFu A' := by
  have p3 : ∀ r, aR A' r 3 = aR A r 3 := fun r => h r 3 (by omega)
  have p1 : ∀ r, aR A' r 1 = aR A r 1 := fun r => h r 1 (by omega)
  have p0 : ∀ r, aR A' r 0 = aR A r 0 := fun r => h r 0 (by omega)
  have t0 : ∀ a k, aT A' a k = aT A a k := fun a k => by show A'.2.1 a k = _; rw [hT]
  have w0 : ∀ a b c e, aW A' a b c e = aW A a b c e := fun a b c e => by show A'.2.2.1 a b c e = _; rw [hW]
  have gn : ∀ a d, wN A' a d = wN A a d := fun a d => wN_cg p3 (t0 a 1) (t0 a 2)
  have gus : ∀ a r d, us A' a r d = us A a r d := fun a r d => us_cg p3 (t0 a 0) (t0 a 1) (t0 a 2)
  refine ⟨fun a ha => by rw [t0]; exact hu.1 a ha, h3, fun a ha ho => ?_, fun r h1 hr hp => ?_, fun k hk => ?_⟩
  · rw [t0] at ho
    have := hu.o ha ho
    unfold WFo at *
    simp only [t0, w0, gn, p0, p1]
    exact this
  · have e : rsv A' r = rsv A r := by unfold rsv; simp only [gus, t0]
    rw [p0] at hp
    rw [e]; exact hc r h1 hr hp
  · have e : opN A' k = opN A k := by unfold opN; simp only [t0]
    rw [e]; exact hu.2.2.2.2 k hk
theorem SZ.cgR (hz : SZ (mI μ) f A) (hf : FrF f μ μ') (h : ∀ r, aR A' r 3 = aR A r 3) (hT : A'.2.1 = A.2.1) : SZ (mI μ') f A' := by
  have t0 : ∀ a k, aT A' a k = aT A a k := fun a k => by show A'.2.1 a k = _; rw [hT]
  intro t d k a b c e
  rw [hf.2.1 t d a c]
  rw [wN_cg h (t0 t 1) (t0 t 2)] at e
  rw [t0] at b
  exact hz t d k a b c e
theorem lnk1 (hC : CS μ f A) (h1 : 1 ≤ r) (hr : r < 8) (hp : aR A r 0 = 1) : s15 μ f (nI r) = some (nI 1) := by
  rw [j15 hC hr (by omega), hp]; simp [show ¬ r = 0 by omega, bI]
theorem lnk2 (hM : RS μ A) (h1 : 1 ≤ r) (hr : r < 8) (hp : aR A r 0 = 1) : s151 μ 200 (nI r) = some (nI 1) := by
  rw [k151 hM hr (by omega), hp]; simp [show ¬ r = 0 by omega, bI]
/-- a link made wide or not: both sides -/
theorem wid {b : Nat} (hK : ClsL (mS μ) (mP μ)) (hC : CS μ 11 A) (hM : RS μ A) (ht : WFt A) (hu : WFu A) (hZ : SZ (mI μ) 11 A) (h1 : 1 ≤ r) (hr : r < 8) (hp : aR A r 0 = 1) (hg : lgen A r = 3) (hb : b ≤ 1) (hv : b = 0 → rsv A r ≤ 7) : ∃ μ1 μ2 A', s103_31 2 (nI r) (nI b) μ (ro 11 r + 1) = some (nI (aR A r 5), μ1) ∧ FrC μ μ1 ∧ CS μ1 11 A' ∧ SZ (mI μ1) 11 A' ∧ s187_22 200 (nI r) (nI b) μ1 = some (nI (aR A r 5), μ2) ∧ FrR μ1 μ2 ∧ RS μ2 A' ∧ WFt A' ∧ WFu A' := by
  have hR := hM.1
  have hF := hC.1
  have hw := WN.of ht hu
  obtain ⟨w1, w2, w3, w4, w5, w6, w7, w8, w9, w10, w11, w12, w13, w14⟩ := ht.w h1 hr hp
  have c2 := CS.uR5 (v := b) hC hw hr
  have hf : FrF 11 μ (mUI μ (ro 11 r + 1) 1 (nI b)) := FrF_ro hr (by omega) (Or.inr ((show b = 0 ∨ b = 1 by omega).elim (fun q => Or.inl (by rw [q])) (fun q => Or.inr (by rw [q]))))
  have h04 : ∀ a k, k ≤ 4 → aR (setR A r 5 b) a k = aR A a k := fun a k hk => by rw [aR_setR, if_neg (by omega)]
  have ht1 : WFt (setR A r 5 b) := ht.cgR h04 (fun a a1 a2 a3 => by
    obtain ⟨x1, x2, x3, x4, x5, x6, x7, x8, x9, x10, x11, x12, x13, x14⟩ := ht.w a1 a2 a3
    simp only [aR_setR, show ¬ (6 : Nat) = 5 by omega, show ¬ (9 : Nat) = 5 by omega, show ¬ (10 : Nat) = 5 by omega, show ¬ (8 : Nat) = 5 by omega, and_false, and_true, if_false]
    refine ⟨?_, x10, x11, x12, x13, x14⟩
    split <;> omega)
  have hu1 : WFu (setR A r 5 b) := wfu_cgR hu h04 rfl rfl hu.2.1 (fun a a1 a2 a3 => by
    have hva := hu.rsv a1 a2 a3
    by_cases q : a = r
    · subst q
      unfold cap at hva ⊢
      rw [lgen_cg (A := A) (fun x => h04 x 3 (by omega)) (fun x => h04 x 2 (by omega)), hg]
      rw [hg] at hva
      have e4 : rateK 3 = 4 := rfl
      rw [e4] at hva ⊢
      have e6 : aR (setR A a 5 b) a 5 = b := by rw [aR_setR, if_pos ⟨rfl, rfl⟩]
      rw [e6]
      by_cases q2 : b = 0
      · have := hv q2; rw [if_pos q2]; omega
      · rw [if_neg q2]
        simp only [if_true] at hva ⊢
        split at hva <;> omega
    · rw [cap_cg (A := A) (fun x => h04 x 3 (by omega)) (fun x => h04 x 2 (by omega)) (by rw [aR_setR, if_neg (by omega)])]; exact hva)
  obtain ⟨μ2, c3, c4, c5⟩ := j34 c2 ht1 hu1
  have hf2 := hf.trans c5.F
  have hM2 := hf2.C.rs hM
  have d1 := k149 (v := b) hM2 hr (k := 5) (by omega)
  have d2 := RS.uR (v := b) (k := 5) hM2 hr (by omega)
  have g1 : Fr 201 202 μ2 (mUI μ2 201 (9 * r + 5) (nI b)) := Fr_UI μ2 (by omega) (by omega) _ _
  have r3 := RefL.s d2.1
  generalize mUI μ2 201 (9 * r + 5) (nI b) = μ3 at *
  obtain ⟨μ4, d6, d7, d8⟩ := k171 d2 ht1 hu1
  obtain ⟨v1, v2⟩ := dN_wf (n := 10) (o := -nI 1) ht1 hu1
  have hK1 := hK.fr hf.1
  have s1 := ClsL.s hK1
  have s2 := ClsL.p1 hK1
  have s3 := FabL.s0 c2.1
  have r2 := RefL.s hM2.1
  have z1 := k148 hM2 hr (k := 5) (by omega)
  refine ⟨μ2, μ4, dist (setR A r 5 b), ?_, hf2.C, c4, SZ.dst (hZ.cgR hf (fun x => h04 x 3 (by omega)) rfl) c5.F, ?_, Fr.R (g1.trans d8) (by omega), d7, v1, v2⟩
  · have hb2 : b = 0 ∨ b = 1 := by omega
    have hb3 : aR A r 5 = 0 ∨ aR A r 5 = 1 := by omega
    have hb4 : nI b = nI 0 ∨ nI b = nI 1 := by rcases hb2 with q | q <;> rw [q]; exact Or.inl rfl; exact Or.inr rfl
    rcases hb3 with q | q <;> simp (disch := omega) only [s103_31, s103_37, FabL.s0 hF, FabL.p0 hF, FabL.p1 hF, FabL.s1 hF, FabL.s2 hF, FabL.r hF, FabL.rs hF, FabL.rl hF, FabL.ls hF, FabL.l5 hF, FabL.l6 hF, FabL.l7 hF, FabL.l8 hF, FabL.q2 hF, FabL.q3 hF, FabL.q4 hF, FabL.q5 hF, FabL.tp hF, FabL.ts hF, FabL.td hF, FabL.tw hF, FabL.ws hF, FabL.w4 hF, FabL.w5 hF, FabL.w6 hF, FabL.w7 hF, FabL.w8 hF, FabL.v1 hF, FabL.v2 hF, FabL.v3 hF, FabL.v4 hF, FabL.v5 hF, RepC.g1 hC.2, q, c3, s1, s2, s3, hb2, Option.bind_some, Sum.elim_inl, Sum.elim_inr, reduceIte, if_true, if_false, ite_true, ite_false, not_true_eq_false, not_false_eq_true, or_true, true_or, or_false, false_or, and_true, true_and, and_false, false_and, eq_self, ne_eq, Nat.reduceAdd, Nat.reduceMul, Nat.le_refl, ite_self, Nat.reduceEqDiff, Nat.reduceLeDiff, Nat.reduceLT, L_0, L_1, L_2, L_3, L_4, L_5, L_6, L_7, L_8, L_9, L_10, L_11, L_12, L_13, L_14, L_15, L_16, L_24, L_31, L_40, L_48, L_49, L_50, L_51, L_60, L_72, L_99, L_127, L_132, L_172, L_412, L_428, L_429, L_430, L_431, L_432, L_433, L_1000, nI_add, nI_mul, nI_leI, nI_ltI, nI_eq, m_cl, mInb_iff, nI_ng, ng_nI, ng_ng, nI_lt_ng, ng_lt_nI, nI_le_ng, ng_le_nI]
  · have hb2 : b = 0 ∨ b = 1 := by omega
    rcases hb2 with q | q <;> subst q <;> simp (disch := omega) only [s187_22, s187_35, r2, r3, z1, d1, d6, Option.bind_some, Sum.elim_inl, Sum.elim_inr, reduceIte, if_true, if_false, ite_true, ite_false, not_true_eq_false, not_false_eq_true, or_true, true_or, or_false, false_or, and_true, true_and, and_false, false_and, eq_self, ne_eq, Nat.reduceAdd, Nat.reduceMul, Nat.le_refl, ite_self, Nat.reduceEqDiff, Nat.reduceLeDiff, Nat.reduceLT, L_0, L_1, L_2, L_3, L_4, L_5, L_6, L_7, L_8, L_9, L_10, L_11, L_12, L_13, L_14, L_15, L_16, L_24, L_31, L_40, L_48, L_49, L_50, L_51, L_60, L_72, L_99, L_127, L_132, L_172, L_412, L_428, L_429, L_430, L_431, L_432, L_433, L_1000, nI_add, nI_mul, nI_leI, nI_ltI, nI_eq, m_cl, mInb_iff, nI_ng, ng_nI, ng_ng, nI_lt_ng, ng_lt_nI, nI_le_ng, ng_le_nI]
theorem op6 : Op6 (Inv L xs) := fun x y hy => CI_op fun μ A hS hZ => by
  obtain ⟨hK, hC, hM, ht, hu⟩ := hS
  have hR := hM.1
  have hF := hC.1
  obtain ⟨b, hb, rfl⟩ : ∃ b, b ≤ 1 ∧ y = nI b := by
    rcases hy with q | q
    · exact ⟨0, by omega, q⟩
    · exact ⟨1, by omega, q⟩
  rcases lnk hC hM ht x with ⟨r, rfl, h1, hr, hp, l1, l2⟩ | ⟨l1, l2⟩
  · obtain ⟨g1, g2⟩ := lgen_le ht h1 hr hp
    have hv := hu.rsv h1 hr hp
    have hcp := cap_le A r 0
    by_cases hg : lgen A r = 3
    · have e3 : rateK 3 * 2 - 1 = 7 := rfl
      by_cases hb0 : b = 0
      · subst hb0
        by_cases h7 : rsv A r ≤ 7
        · obtain ⟨μ1, μ2, A', q1, q2, q3, q4, q5, q6, q7⟩ := wid hK hC hM ht hu hZ h1 hr hp hg hb (fun _ => h7)
          have hM1 := q2.rs hM
          have l3 := lnk2 hM1 h1 hr hp
          have r2 := RefL.s hM1.1
          refine ⟨nI (aR A r 5), μ1, μ2, A', ?_, q2, q3, q4, ?_, q6, q7⟩
          · simp (disch := omega) only [s103, ClsL.s hK, ClsL.p0 hK, ClsL.p1 hK, ClsL.p2 hK, ClsL.p3 hK, ClsL.p4 hK, ClsL.p5 hK, ClsL.s192 hK, ClsL.s199 hK, FabL.s0 hF, FabL.p0 hF, FabL.p1 hF, FabL.s1 hF, FabL.s2 hF, FabL.r hF, FabL.rs hF, FabL.rl hF, FabL.ls hF, FabL.l5 hF, FabL.l6 hF, FabL.l7 hF, FabL.l8 hF, FabL.q2 hF, FabL.q3 hF, FabL.q4 hF, FabL.q5 hF, FabL.tp hF, FabL.ts hF, FabL.td hF, FabL.tw hF, FabL.ws hF, FabL.w4 hF, FabL.w5 hF, FabL.w6 hF, FabL.w7 hF, FabL.w8 hF, FabL.v1 hF, FabL.v2 hF, FabL.v3 hF, FabL.v4 hF, FabL.v5 hF, l1, j18 hF, RepC.g0 hC.2, hg, j29 hC ht hu, j137, e3, h7, q1, Option.bind_some, Sum.elim_inl, Sum.elim_inr, reduceIte, if_true, if_false, ite_true, ite_false, not_true_eq_false, not_false_eq_true, or_true, true_or, or_false, false_or, and_true, true_and, and_false, false_and, eq_self, ne_eq, Nat.reduceAdd, Nat.reduceMul, Nat.le_refl, ite_self, Nat.reduceEqDiff, Nat.reduceLeDiff, Nat.reduceLT, L_0, L_1, L_2, L_3, L_4, L_5, L_6, L_7, L_8, L_9, L_10, L_11, L_12, L_13, L_14, L_15, L_16, L_24, L_31, L_40, L_48, L_49, L_50, L_51, L_60, L_72, L_99, L_127, L_132, L_172, L_412, L_428, L_429, L_430, L_431, L_432, L_433, L_1000, nI_add, nI_mul, nI_leI, nI_ltI, nI_eq, m_cl, mInb_iff, nI_ng, ng_nI, ng_ng, nI_lt_ng, ng_lt_nI, nI_le_ng, ng_le_nI]
          · simp (disch := omega) only [s187, r2, l3, k154 hM1 ht, hg, k168 hM1 ht hu, h7, q5, Option.bind_some, Sum.elim_inl, Sum.elim_inr, reduceIte, if_true, if_false, ite_true, ite_false, not_true_eq_false, not_false_eq_true, or_true, true_or, or_false, false_or, and_true, true_and, and_false, false_and, eq_self, ne_eq, Nat.reduceAdd, Nat.reduceMul, Nat.le_refl, ite_self, Nat.reduceEqDiff, Nat.reduceLeDiff, Nat.reduceLT, L_0, L_1, L_2, L_3, L_4, L_5, L_6, L_7, L_8, L_9, L_10, L_11, L_12, L_13, L_14, L_15, L_16, L_24, L_31, L_40, L_48, L_49, L_50, L_51, L_60, L_72, L_99, L_127, L_132, L_172, L_412, L_428, L_429, L_430, L_431, L_432, L_433, L_1000, nI_add, nI_mul, nI_leI, nI_ltI, nI_eq, m_cl, mInb_iff, nI_ng, ng_nI, ng_ng, nI_lt_ng, ng_lt_nI, nI_le_ng, ng_le_nI]
        · refine ⟨-nI 8, μ, μ, A, ?_, FrC.refl _, hC, hZ, ?_, FrR.refl _, hM, ht, hu⟩
          · simp (disch := omega) only [s103, ClsL.s hK, ClsL.p0 hK, ClsL.p1 hK, ClsL.p2 hK, ClsL.p3 hK, ClsL.p4 hK, ClsL.p5 hK, ClsL.s192 hK, ClsL.s199 hK, FabL.s0 hF, FabL.p0 hF, FabL.p1 hF, FabL.s1 hF, FabL.s2 hF, FabL.r hF, FabL.rs hF, FabL.rl hF, FabL.ls hF, FabL.l5 hF, FabL.l6 hF, FabL.l7 hF, FabL.l8 hF, FabL.q2 hF, FabL.q3 hF, FabL.q4 hF, FabL.q5 hF, FabL.tp hF, FabL.ts hF, FabL.td hF, FabL.tw hF, FabL.ws hF, FabL.w4 hF, FabL.w5 hF, FabL.w6 hF, FabL.w7 hF, FabL.w8 hF, FabL.v1 hF, FabL.v2 hF, FabL.v3 hF, FabL.v4 hF, FabL.v5 hF, l1, j18 hF, RepC.g0 hC.2, hg, j29 hC ht hu, j137, e3, h7, Option.bind_some, Sum.elim_inl, Sum.elim_inr, reduceIte, if_true, if_false, ite_true, ite_false, not_true_eq_false, not_false_eq_true, or_true, true_or, or_false, false_or, and_true, true_and, and_false, false_and, eq_self, ne_eq, Nat.reduceAdd, Nat.reduceMul, Nat.le_refl, ite_self, Nat.reduceEqDiff, Nat.reduceLeDiff, Nat.reduceLT, L_0, L_1, L_2, L_3, L_4, L_5, L_6, L_7, L_8, L_9, L_10, L_11, L_12, L_13, L_14, L_15, L_16, L_24, L_31, L_40, L_48, L_49, L_50, L_51, L_60, L_72, L_99, L_127, L_132, L_172, L_412, L_428, L_429, L_430, L_431, L_432, L_433, L_1000, nI_add, nI_mul, nI_leI, nI_ltI, nI_eq, m_cl, mInb_iff, nI_ng, ng_nI, ng_ng, nI_lt_ng, ng_lt_nI, nI_le_ng, ng_le_nI]
          · simp (disch := omega) only [s187, RefL.s hR, RefL.r0 hR, RefL.r1 hR, RefL.r2 hR, RefL.r3 hR, RefL.r4 hR, RefL.r5 hR, RefL.r7 hR, RefL.r8 hR, RefL.r9 hR, RefL.r10 hR, RefL.r12 hR, RefL.r13 hR, RefL.r14 hR, RefL.r15 hR, RefL.r16 hR, RefL.r17 hR, RefL.r18 hR, RefL.r19 hR, RefL.a0 hR, RefL.a1 hR, RefL.a2 hR, RefL.a3 hR, RefL.a4 hR, RefL.a5 hR, RefL.a7 hR, RefL.a8 hR, RefL.a9 hR, RefL.a10 hR, RefL.a12 hR, RefL.a13 hR, RefL.a14 hR, RefL.a15 hR, RefL.a16 hR, RefL.a17 hR, RefL.a18 hR, RefL.a19 hR, l2, k154 hM ht, hg, k168 hM ht hu, h7, Option.bind_some, Sum.elim_inl, Sum.elim_inr, reduceIte, if_true, if_false, ite_true, ite_false, not_true_eq_false, not_false_eq_true, or_true, true_or, or_false, false_or, and_true, true_and, and_false, false_and, eq_self, ne_eq, Nat.reduceAdd, Nat.reduceMul, Nat.le_refl, ite_self, Nat.reduceEqDiff, Nat.reduceLeDiff, Nat.reduceLT, L_0, L_1, L_2, L_3, L_4, L_5, L_6, L_7, L_8, L_9, L_10, L_11, L_12, L_13, L_14, L_15, L_16, L_24, L_31, L_40, L_48, L_49, L_50, L_51, L_60, L_72, L_99, L_127, L_132, L_172, L_412, L_428, L_429, L_430, L_431, L_432, L_433, L_1000, nI_add, nI_mul, nI_leI, nI_ltI, nI_eq, m_cl, mInb_iff, nI_ng, ng_nI, ng_ng, nI_lt_ng, ng_lt_nI, nI_le_ng, ng_le_nI]
      · obtain ⟨μ1, μ2, A', q1, q2, q3, q4, q5, q6, q7⟩ := wid hK hC hM ht hu hZ h1 hr hp hg hb (fun z => absurd z hb0)
        have hM1 := q2.rs hM
        have l3 := lnk2 hM1 h1 hr hp
        have r2 := RefL.s hM1.1
        refine ⟨nI (aR A r 5), μ1, μ2, A', ?_, q2, q3, q4, ?_, q6, q7⟩
        · simp (disch := omega) only [s103, ClsL.s hK, ClsL.p0 hK, ClsL.p1 hK, ClsL.p2 hK, ClsL.p3 hK, ClsL.p4 hK, ClsL.p5 hK, ClsL.s192 hK, ClsL.s199 hK, FabL.s0 hF, FabL.p0 hF, FabL.p1 hF, FabL.s1 hF, FabL.s2 hF, FabL.r hF, FabL.rs hF, FabL.rl hF, FabL.ls hF, FabL.l5 hF, FabL.l6 hF, FabL.l7 hF, FabL.l8 hF, FabL.q2 hF, FabL.q3 hF, FabL.q4 hF, FabL.q5 hF, FabL.tp hF, FabL.ts hF, FabL.td hF, FabL.tw hF, FabL.ws hF, FabL.w4 hF, FabL.w5 hF, FabL.w6 hF, FabL.w7 hF, FabL.w8 hF, FabL.v1 hF, FabL.v2 hF, FabL.v3 hF, FabL.v4 hF, FabL.v5 hF, l1, j18 hF, RepC.g0 hC.2, hg, hb0, q1, Option.bind_some, Sum.elim_inl, Sum.elim_inr, reduceIte, if_true, if_false, ite_true, ite_false, not_true_eq_false, not_false_eq_true, or_true, true_or, or_false, false_or, and_true, true_and, and_false, false_and, eq_self, ne_eq, Nat.reduceAdd, Nat.reduceMul, Nat.le_refl, ite_self, Nat.reduceEqDiff, Nat.reduceLeDiff, Nat.reduceLT, L_0, L_1, L_2, L_3, L_4, L_5, L_6, L_7, L_8, L_9, L_10, L_11, L_12, L_13, L_14, L_15, L_16, L_24, L_31, L_40, L_48, L_49, L_50, L_51, L_60, L_72, L_99, L_127, L_132, L_172, L_412, L_428, L_429, L_430, L_431, L_432, L_433, L_1000, nI_add, nI_mul, nI_leI, nI_ltI, nI_eq, m_cl, mInb_iff, nI_ng, ng_nI, ng_ng, nI_lt_ng, ng_lt_nI, nI_le_ng, ng_le_nI]
        · simp (disch := omega) only [s187, r2, l3, k154 hM1 ht, hg, hb0, q5, Option.bind_some, Sum.elim_inl, Sum.elim_inr, reduceIte, if_true, if_false, ite_true, ite_false, not_true_eq_false, not_false_eq_true, or_true, true_or, or_false, false_or, and_true, true_and, and_false, false_and, eq_self, ne_eq, Nat.reduceAdd, Nat.reduceMul, Nat.le_refl, ite_self, Nat.reduceEqDiff, Nat.reduceLeDiff, Nat.reduceLT, L_0, L_1, L_2, L_3, L_4, L_5, L_6, L_7, L_8, L_9, L_10, L_11, L_12, L_13, L_14, L_15, L_16, L_24, L_31, L_40, L_48, L_49, L_50, L_51, L_60, L_72, L_99, L_127, L_132, L_172, L_412, L_428, L_429, L_430, L_431, L_432, L_433, L_1000, nI_add, nI_mul, nI_leI, nI_ltI, nI_eq, m_cl, mInb_iff, nI_ng, ng_nI, ng_ng, nI_lt_ng, ng_lt_nI, nI_le_ng, ng_le_nI]
    · refine ⟨-nI 2, μ, μ, A, ?_, FrC.refl _, hC, hZ, ?_, FrR.refl _, hM, ht, hu⟩
      · simp (disch := omega) only [s103, ClsL.s hK, ClsL.p0 hK, ClsL.p1 hK, ClsL.p2 hK, ClsL.p3 hK, ClsL.p4 hK, ClsL.p5 hK, ClsL.s192 hK, ClsL.s199 hK, FabL.s0 hF, FabL.p0 hF, FabL.p1 hF, FabL.s1 hF, FabL.s2 hF, FabL.r hF, FabL.rs hF, FabL.rl hF, FabL.ls hF, FabL.l5 hF, FabL.l6 hF, FabL.l7 hF, FabL.l8 hF, FabL.q2 hF, FabL.q3 hF, FabL.q4 hF, FabL.q5 hF, FabL.tp hF, FabL.ts hF, FabL.td hF, FabL.tw hF, FabL.ws hF, FabL.w4 hF, FabL.w5 hF, FabL.w6 hF, FabL.w7 hF, FabL.w8 hF, FabL.v1 hF, FabL.v2 hF, FabL.v3 hF, FabL.v4 hF, FabL.v5 hF, l1, j18 hF, RepC.g0 hC.2, hg, Option.bind_some, Sum.elim_inl, Sum.elim_inr, reduceIte, if_true, if_false, ite_true, ite_false, not_true_eq_false, not_false_eq_true, or_true, true_or, or_false, false_or, and_true, true_and, and_false, false_and, eq_self, ne_eq, Nat.reduceAdd, Nat.reduceMul, Nat.le_refl, ite_self, Nat.reduceEqDiff, Nat.reduceLeDiff, Nat.reduceLT, L_0, L_1, L_2, L_3, L_4, L_5, L_6, L_7, L_8, L_9, L_10, L_11, L_12, L_13, L_14, L_15, L_16, L_24, L_31, L_40, L_48, L_49, L_50, L_51, L_60, L_72, L_99, L_127, L_132, L_172, L_412, L_428, L_429, L_430, L_431, L_432, L_433, L_1000, nI_add, nI_mul, nI_leI, nI_ltI, nI_eq, m_cl, mInb_iff, nI_ng, ng_nI, ng_ng, nI_lt_ng, ng_lt_nI, nI_le_ng, ng_le_nI]
      · simp (disch := omega) only [s187, RefL.s hR, RefL.r0 hR, RefL.r1 hR, RefL.r2 hR, RefL.r3 hR, RefL.r4 hR, RefL.r5 hR, RefL.r7 hR, RefL.r8 hR, RefL.r9 hR, RefL.r10 hR, RefL.r12 hR, RefL.r13 hR, RefL.r14 hR, RefL.r15 hR, RefL.r16 hR, RefL.r17 hR, RefL.r18 hR, RefL.r19 hR, RefL.a0 hR, RefL.a1 hR, RefL.a2 hR, RefL.a3 hR, RefL.a4 hR, RefL.a5 hR, RefL.a7 hR, RefL.a8 hR, RefL.a9 hR, RefL.a10 hR, RefL.a12 hR, RefL.a13 hR, RefL.a14 hR, RefL.a15 hR, RefL.a16 hR, RefL.a17 hR, RefL.a18 hR, RefL.a19 hR, l2, k154 hM ht, hg, Option.bind_some, Sum.elim_inl, Sum.elim_inr, reduceIte, if_true, if_false, ite_true, ite_false, not_true_eq_false, not_false_eq_true, or_true, true_or, or_false, false_or, and_true, true_and, and_false, false_and, eq_self, ne_eq, Nat.reduceAdd, Nat.reduceMul, Nat.le_refl, ite_self, Nat.reduceEqDiff, Nat.reduceLeDiff, Nat.reduceLT, L_0, L_1, L_2, L_3, L_4, L_5, L_6, L_7, L_8, L_9, L_10, L_11, L_12, L_13, L_14, L_15, L_16, L_24, L_31, L_40, L_48, L_49, L_50, L_51, L_60, L_72, L_99, L_127, L_132, L_172, L_412, L_428, L_429, L_430, L_431, L_432, L_433, L_1000, nI_add, nI_mul, nI_leI, nI_ltI, nI_eq, m_cl, mInb_iff, nI_ng, ng_nI, ng_ng, nI_lt_ng, ng_lt_nI, nI_le_ng, ng_le_nI]
  · refine ⟨-nI 1, μ, μ, A, ?_, FrC.refl _, hC, hZ, ?_, FrR.refl _, hM, ht, hu⟩
    · simp (disch := omega) only [s103, ClsL.s hK, ClsL.p0 hK, ClsL.p1 hK, ClsL.p2 hK, ClsL.p3 hK, ClsL.p4 hK, ClsL.p5 hK, ClsL.s192 hK, ClsL.s199 hK, FabL.s0 hF, FabL.p0 hF, FabL.p1 hF, FabL.s1 hF, FabL.s2 hF, FabL.r hF, FabL.rs hF, FabL.rl hF, FabL.ls hF, FabL.l5 hF, FabL.l6 hF, FabL.l7 hF, FabL.l8 hF, FabL.q2 hF, FabL.q3 hF, FabL.q4 hF, FabL.q5 hF, FabL.tp hF, FabL.ts hF, FabL.td hF, FabL.tw hF, FabL.ws hF, FabL.w4 hF, FabL.w5 hF, FabL.w6 hF, FabL.w7 hF, FabL.w8 hF, FabL.v1 hF, FabL.v2 hF, FabL.v3 hF, FabL.v4 hF, FabL.v5 hF, l1, Option.bind_some, Sum.elim_inl, Sum.elim_inr, reduceIte, if_true, if_false, ite_true, ite_false, not_true_eq_false, not_false_eq_true, or_true, true_or, or_false, false_or, and_true, true_and, and_false, false_and, eq_self, ne_eq, Nat.reduceAdd, Nat.reduceMul, Nat.le_refl, ite_self, Nat.reduceEqDiff, Nat.reduceLeDiff, Nat.reduceLT, L_0, L_1, L_2, L_3, L_4, L_5, L_6, L_7, L_8, L_9, L_10, L_11, L_12, L_13, L_14, L_15, L_16, L_24, L_31, L_40, L_48, L_49, L_50, L_51, L_60, L_72, L_99, L_127, L_132, L_172, L_412, L_428, L_429, L_430, L_431, L_432, L_433, L_1000, nI_add, nI_mul, nI_leI, nI_ltI, nI_eq, m_cl, mInb_iff, nI_ng, ng_nI, ng_ng, nI_lt_ng, ng_lt_nI, nI_le_ng, ng_le_nI]
    · simp (disch := omega) only [s187, RefL.s hR, RefL.r0 hR, RefL.r1 hR, RefL.r2 hR, RefL.r3 hR, RefL.r4 hR, RefL.r5 hR, RefL.r7 hR, RefL.r8 hR, RefL.r9 hR, RefL.r10 hR, RefL.r12 hR, RefL.r13 hR, RefL.r14 hR, RefL.r15 hR, RefL.r16 hR, RefL.r17 hR, RefL.r18 hR, RefL.r19 hR, RefL.a0 hR, RefL.a1 hR, RefL.a2 hR, RefL.a3 hR, RefL.a4 hR, RefL.a5 hR, RefL.a7 hR, RefL.a8 hR, RefL.a9 hR, RefL.a10 hR, RefL.a12 hR, RefL.a13 hR, RefL.a14 hR, RefL.a15 hR, RefL.a16 hR, RefL.a17 hR, RefL.a18 hR, RefL.a19 hR, l2, Option.bind_some, Sum.elim_inl, Sum.elim_inr, reduceIte, if_true, if_false, ite_true, ite_false, not_true_eq_false, not_false_eq_true, or_true, true_or, or_false, false_or, and_true, true_and, and_false, false_and, eq_self, ne_eq, Nat.reduceAdd, Nat.reduceMul, Nat.le_refl, ite_self, Nat.reduceEqDiff, Nat.reduceLeDiff, Nat.reduceLT, L_0, L_1, L_2, L_3, L_4, L_5, L_6, L_7, L_8, L_9, L_10, L_11, L_12, L_13, L_14, L_15, L_16, L_24, L_31, L_40, L_48, L_49, L_50, L_51, L_60, L_72, L_99, L_127, L_132, L_172, L_412, L_428, L_429, L_430, L_431, L_432, L_433, L_1000, nI_add, nI_mul, nI_leI, nI_ltI, nI_eq, m_cl, mInb_iff, nI_ng, ng_nI, ng_ng, nI_lt_ng, ng_lt_nI, nI_le_ng, ng_le_nI]
end SH
