/-! the invariant at the law's loop, and how a public call keeps it -/
/-- a saved slot -/
def SlotOK (μ : mM) (i : Nat) : Prop := (mP μ 192 i = 0 ∧ mI μ 205 i = nI 0) ∨ (mI μ 205 i = nI 1 ∧ 219 ≤ mP μ 192 i ∧ mP μ 192 i + 181 ≤ mNx μ ∧ FabL (mS μ) (mP μ) (mP μ 192 i) ∧ BZ (mI μ) (mP μ 192 i) ∧ ∃ A, RepC (mI μ) (mF μ) (mP μ 192 i) A ∧ SZ (mI μ) (mP μ 192 i) A ∧ RepM (fun k => mI μ 203 (433 * i + k)) (fun k => mF μ 204 (16 * i + k)) A ∧ WFt A ∧ WFu A)
def nSl (μ : mM) (i : Nat) : Nat := if mP μ 192 i = 0 then 0 else 1
def SlotsOK (μ : mM) : Prop := (SlotOK μ 0 ∧ SlotOK μ 1) ∧ (mP μ 192 0 = 0 ∨ mP μ 192 1 = 0 ∨ mP μ 192 0 + 181 ≤ mP μ 192 1 ∨ mP μ 192 1 + 181 ≤ mP μ 192 0) ∧ 219 ≤ mNx μ ∧ mNx μ ≤ 219 + 181 * (nSl μ 0 + nSl μ 1) ∧ mSl μ ≤ 20000 + 20000 * (nSl μ 0 + nSl μ 1)
def TextOK (μ : mM) : Prop := ∃ n, n ≤ 60 ∧ mI μ 3 1 = nI n ∧ mI μ 200 6 = nI n ∧ ∀ j, j < n → ∃ c, c ≤ 127 ∧ mI μ 4 j = nI c ∧ mI μ 206 j = nI c
def Inv (L : Nat) (xs : Nat → Int32) (μ : mM) : Prop := (mS μ 1 = (98, L) ∧ mI μ 1 = xs) ∧ (∃ A, St μ A ∧ SZ (mI μ) 11 A) ∧ TextOK μ ∧ SlotsOK μ ∧ BZ (mI μ) 11
theorem SlotsOK.cg {μ μ' : mM} (h : SlotsOK μ) (hS : μ'.2.2.2 = μ.2.2.2) (hI : ∀ q, (203 ≤ q ∧ q < 206) ∨ 219 ≤ q → mI μ' q = mI μ q ∧ mF μ' q = mF μ q) : SlotsOK μ' := by
  have eP : mP μ' = mP μ := by show μ'.2.2.2.1 = _; rw [hS]
  have eS : mS μ' = mS μ := by show μ'.2.2.2.2.1 = _; rw [hS]
  have eN : mNx μ' = mNx μ := by show μ'.2.2.2.2.2.1 = _; rw [hS]
  have eL : mSl μ' = mSl μ := by show μ'.2.2.2.2.2.2 = _; rw [hS]
  have one : ∀ i, SlotOK μ i → SlotOK μ' i := by
    intro i hi
    unfold SlotOK at *
    rw [eP, eS, eN, (hI 205 (by omega)).1, (hI 203 (by omega)).1, (hI 204 (by omega)).2]
    rcases hi with hi | ⟨h1, h2, h3, h4, hB, A, h5, h6, h7⟩
    · exact Or.inl hi
    · refine Or.inr ⟨h1, h2, h3, h4, hB.cg (fun r hr => by rw [(hI _ (by unfold ro; omega)).1]) (fun t d a b => by rw [(hI _ (by unfold wy; omega)).1]), A, h5.congr (fun q a b => (hI q (by omega)).1) (fun q a b => (hI q (by omega)).2), fun t d k a b c e => ?_, h7⟩
      rw [(hI _ (by unfold wy; omega)).1]; exact h6 t d k a b c e
  unfold SlotsOK nSl at *
  rw [eP, eN, eL]
  exact ⟨⟨one 0 h.1.1, one 1 h.1.2⟩, h.2⟩
/-- what stays where the class works / where the reference works -/
def FrC (μ μ' : mM) : Prop := Fr 11 200 μ μ' ∧ (BZ (mI μ) 11 → BZ (mI μ') 11)
theorem FrC.refl (μ : mM) : FrC μ μ := ⟨Fr.refl _ _ _, id⟩
def FrR (μ μ' : mM) : Prop := μ'.2.2.2 = μ.2.2.2 ∧ ∀ q, (q < 201 ∨ (203 ≤ q ∧ q < 213) ∨ 219 ≤ q) → mI μ' q = mI μ q ∧ mF μ' q = mF μ q
theorem FrR.refl (μ : mM) : FrR μ μ := ⟨rfl, fun _ _ => ⟨rfl, rfl⟩⟩
theorem FrR.trans {μ μ1 μ2 : mM} (h1 : FrR μ μ1) (h2 : FrR μ1 μ2) : FrR μ μ2 := ⟨h2.1.trans h1.1, fun q hq => ⟨((h2.2 q hq).1).trans (h1.2 q hq).1, ((h2.2 q hq).2).trans (h1.2 q hq).2⟩⟩
theorem Fr.R {lo hi : Nat} {μ μ1 : mM} (h : Fr lo hi μ μ1) (h1 : (201 ≤ lo ∧ hi ≤ 203) ∨ (213 ≤ lo ∧ hi ≤ 219)) : FrR μ μ1 := ⟨h.1, fun q hq => h.2 q (by omega)⟩
theorem FrF.C {μ μ1 : mM} (h : FrF 11 μ μ1) : FrC μ μ1 := ⟨Fr.mono h.1 (by omega) (by omega), h.2.2⟩
theorem FrR.cs {μ μ1 : mM} {A : Ab} (h : FrR μ μ1) (hC : CS μ 11 A) : CS μ1 11 A := by
  have eP : mP μ1 = mP μ := by show μ1.2.2.2.1 = _; rw [h.1]
  have eS : mS μ1 = mS μ := by show μ1.2.2.2.2.1 = _; rw [h.1]
  exact ⟨by rw [eP, eS]; exact hC.1, hC.2.congr (fun q a b => (h.2 q (by omega)).1) (fun q a b => (h.2 q (by omega)).2)⟩
theorem FrC.rs {μ μ1 : mM} {A : Ab} (h : FrC μ μ1) (hM : RS μ A) : RS μ1 A := hM.fr h.1 (by omega)
theorem SZ.cg {f : Nat} {A A' : Ab} {μ μ' : mM} (hz : SZ (mI μ) f A) (hf : FrF f μ μ') (h : A'.1 = A.1) (h1 : ∀ t, aT A' t 1 = aT A t 1 ∧ aT A' t 2 = aT A t 2) (h0 : ∀ t, t < 10 → aT A' t 0 = 1 → aT A t 0 = 1) : SZ (mI μ') f A' := by
  intro t d k a b c e
  rw [hf.2.1 t d a c]
  rw [wN_cg (fun r => by show A'.1 r 3 = _; rw [h]) (h1 t).1 (h1 t).2] at e
  exact hz t d k a (h0 t a b) c e
theorem CI_op {L : Nat} {xs : Nat → Int32} {c d : mM → Option (Int32 × mM)} (H : ∀ μ A, St μ A → SZ (mI μ) 11 A → ∃ v μ1 μ2 A', c μ = some (v, μ1) ∧ FrC μ μ1 ∧ CS μ1 11 A' ∧ SZ (mI μ1) 11 A' ∧ d μ1 = some (v, μ2) ∧ FrR μ1 μ2 ∧ RS μ2 A' ∧ WFt A' ∧ WFu A') : CI (Inv L xs) c d := by
  intro μ hI
  obtain ⟨⟨i1, i2⟩, ⟨A, hS, hZ⟩, hT, hsl, hBZ⟩ := hI
  obtain ⟨v, μ1, μ2, A', h1, ⟨h2, h2b⟩, h3, h4, h5, h6, h7, h8, h9⟩ := H μ A hS hZ
  obtain ⟨hK, hC, hM, ht, hu⟩ := hS
  have q1 : mS μ1 = mS μ := h2.S
  have q2 : mS μ2 = mS μ1 := by show μ2.2.2.2.2.1 = _; rw [h6.1]
  have p1 : mP μ1 = mP μ := h2.P
  have p2 : mP μ2 = mP μ1 := by show μ2.2.2.2.1 = _; rw [h6.1]
  have row : ∀ q, (q < 11 ∨ (203 ≤ q ∧ q < 213) ∨ 219 ≤ q ∨ q = 200) → mI μ2 q = mI μ q ∧ mF μ2 q = mF μ q := fun q hq => ⟨((h6.2 q (by omega)).1).trans (h2.2 q (by omega)).1, ((h6.2 q (by omega)).2).trans (h2.2 q (by omega)).2⟩
  refine ⟨v, μ1, μ2, h1, ⟨by rw [q1], (h2.2 1 (by omega)).1, by rw [q1]; rw [RefL.s hM.1]⟩, h5, ⟨by rw [q2, q1]; exact i1, by rw [(row 1 (by omega)).1]; exact i2⟩, ⟨A', ⟨by rw [q2, q1, p2, p1]; exact hK, h6.cs h3, h7, h8, h9⟩, ?_⟩, ?_, hsl.cg (h6.1.trans h2.1) (fun q hq => row q (by omega)), (h2b hBZ).cg (fun r hr => by rw [(h6.2 _ (by unfold ro; omega)).1]) (fun t d a b => by rw [(h6.2 _ (by unfold wy; omega)).1])⟩
  · intro t d k a b e g
    rw [(h6.2 _ (by unfold wy; omega)).1]; exact h4 t d k a b e g
  · unfold TextOK at *
    rw [(row 3 (by omega)).1, (row 200 (by omega)).1, (row 4 (by omega)).1, (row 206 (by omega)).1]
    exact hT
theorem CP_op {L : Nat} {xs : Nat → Int32} {c d : mM → Option Int32} (H : ∀ μ A, St μ A → ∃ v, c μ = some v ∧ d μ = some v) : CP (Inv L xs) c d := by
  intro μ hI
  obtain ⟨-, ⟨A, hS, -⟩, -⟩ := hI
  exact H μ A hS
section IO
variable {μ : mM} {A A' : Ab} {r k t d h q v : Nat} {L : Nat} {xs : Nat → Int32}
theorem op7 : Op7 (Inv L xs) := fun x y => CP_op fun μ A hS => pub7 hS x y
theorem op8 : Op8 (Inv L xs) := fun x y => CP_op fun μ A hS => pub8 hS x y
theorem op9 : Op9 (Inv L xs) := fun x y => CP_op fun μ A hS => pub9 hS x y
theorem op10 : Op10 (Inv L xs) := fun x y => CP_op fun μ A hS => pub10 hS x y
theorem op11 : Op11 (Inv L xs) := fun x y => CP_op fun μ A hS => pub11 hS x y
theorem op17 : Op17 (Inv L xs) := fun x y => CP_op fun μ A hS => pub17 hS x y
theorem op18 : Op18 (Inv L xs) := fun x y z w => CP_op fun μ A hS => pub18 hS x y z w
theorem op19 : Op19 (Inv L xs) := fun x y z => CP_op fun μ A hS => pub19 hS x y z
theorem op23 : Op23 (Inv L xs) := fun x => CP_op fun μ A hS => pub23 hS x
theorem op24 : Op24 (Inv L xs) := fun x => CP_op fun μ A hS => pub24 hS x
theorem op26 : Op26 (Inv L xs) := fun x => CP_op fun μ A hS => pub26 hS x
theorem op27 : Op27 (Inv L xs) := fun x μ hI => by
  obtain ⟨-, ⟨A, hS, -⟩, ⟨n, -, h1, h2, -⟩, -⟩ := hI
  exact pub27 hS (h1.trans h2.symm) x
/-- the text -/
theorem op0 : Op0 (Inv L xs) := fun x μ hI => by
  obtain ⟨⟨i1, i2⟩, ⟨A, hS, hZ⟩, ⟨n, n1, n2, n3, n4⟩, hsl, hBZ⟩ := id hI
  obtain ⟨hK, hC, hM, ht, hu⟩ := id hS
  have hR := hM.1
  have hP := ClsL.pl hK
  have hP1 : (mS μ 3).1 = 3 := by rw [hP.1]
  have c3 := ClsL.p0 hK
  have c4 : mP μ 3 0 = 4 := hP.2.1
  have s4 : mS μ 4 = (10, 60) := hP.2.2.2.2.2.2.2.2.1
  rcases btw μ x 0 127 (by omega) (by omega) with ⟨c, rfl, -, hc, b1, b2⟩ | ⟨-, b1, b2⟩
  · by_cases e : n = 60
    · refine ⟨-nI 5, μ, μ, ?_, ⟨rfl, rfl, by rw [RefL.s hR]⟩, ?_, hI⟩
      · simp (disch := omega) only [s97_17, s97, s60_7, s60, ClsL.s hK, ClsL.p0 hK, ClsL.p1 hK, ClsL.p2 hK, ClsL.p3 hK, ClsL.p4 hK, ClsL.p5 hK, ClsL.s192 hK, ClsL.s199 hK, b1, hP1, c3, n2, e, Option.bind_some, Sum.elim_inl, Sum.elim_inr, reduceIte, if_true, if_false, ite_true, ite_false, not_true_eq_false, not_false_eq_true, or_true, true_or, or_false, false_or, and_true, true_and, and_false, false_and, eq_self, ne_eq, Nat.reduceAdd, Nat.reduceMul, Nat.le_refl, ite_self, Nat.reduceEqDiff, Nat.reduceLeDiff, Nat.reduceLT, L_0, L_1, L_2, L_3, L_4, L_5, L_6, L_7, L_8, L_9, L_10, L_11, L_12, L_13, L_14, L_15, L_16, L_24, L_31, L_40, L_48, L_49, L_50, L_51, L_60, L_72, L_99, L_127, L_132, L_172, L_412, L_428, L_429, L_430, L_431, L_432, L_433, L_1000, nI_add, nI_mul, nI_leI, nI_ltI, nI_eq, m_cl, mInb_iff, nI_ng, ng_nI, ng_ng, nI_lt_ng, ng_lt_nI, nI_le_ng, ng_le_nI]
      · simp (disch := omega) only [s178, RefL.s hR, RefL.r0 hR, RefL.r1 hR, RefL.r2 hR, RefL.r3 hR, RefL.r4 hR, RefL.r5 hR, RefL.r7 hR, RefL.r8 hR, RefL.r9 hR, RefL.r10 hR, RefL.r12 hR, RefL.r13 hR, RefL.r14 hR, RefL.r15 hR, RefL.r16 hR, RefL.r17 hR, RefL.r18 hR, RefL.r19 hR, RefL.a0 hR, RefL.a1 hR, RefL.a2 hR, RefL.a3 hR, RefL.a4 hR, RefL.a5 hR, RefL.a7 hR, RefL.a8 hR, RefL.a9 hR, RefL.a10 hR, RefL.a12 hR, RefL.a13 hR, RefL.a14 hR, RefL.a15 hR, RefL.a16 hR, RefL.a17 hR, RefL.a18 hR, RefL.a19 hR, b2, n3, e, Option.bind_some, Sum.elim_inl, Sum.elim_inr, reduceIte, if_true, if_false, ite_true, ite_false, not_true_eq_false, not_false_eq_true, or_true, true_or, or_false, false_or, and_true, true_and, and_false, false_and, eq_self, ne_eq, Nat.reduceAdd, Nat.reduceMul, Nat.le_refl, ite_self, Nat.reduceEqDiff, Nat.reduceLeDiff, Nat.reduceLT, L_0, L_1, L_2, L_3, L_4, L_5, L_6, L_7, L_8, L_9, L_10, L_11, L_12, L_13, L_14, L_15, L_16, L_24, L_31, L_40, L_48, L_49, L_50, L_51, L_60, L_72, L_99, L_127, L_132, L_172, L_412, L_428, L_429, L_430, L_431, L_432, L_433, L_1000, nI_add, nI_mul, nI_leI, nI_ltI, nI_eq, m_cl, mInb_iff, nI_ng, ng_nI, ng_ng, nI_lt_ng, ng_lt_nI, nI_le_ng, ng_le_nI]
    · have b3 : s144 (mUI (mUI μ 4 n (nI c)) 3 1 (nI (n + 1))) (nI c) (nI 0) (nI 127) = some (nI 1) := by rw [k144 (by omega) (by omega) (by omega)]; simp [hc, bI]
      refine ⟨nI (n + 1), mUI (mUI μ 4 n (nI c)) 3 1 (nI (n + 1)), mUI (mUI (mUI (mUI μ 4 n (nI c)) 3 1 (nI (n + 1))) 206 n (nI c)) 200 6 (nI (n + 1)), ?_, ⟨rfl, by rw [mI_UIr (by omega), mI_UIr (by omega)], by rw [mS_UI, mS_UI, RefL.s hR]⟩, ?_, ⟨i1, by rw [mI_UIr (by omega), mI_UIr (by omega), mI_UIr (by omega), mI_UIr (by omega)]; exact i2⟩, ⟨A, ⟨hK, ?_, ?_, ht, hu⟩, ?_⟩, ⟨n + 1, by omega, ?_, ?_, fun j hj => ?_⟩, ?_, ?_⟩
      · have l1 : nI n < nI 60 := (nI_ltI (by omega) (by omega)).mpr (by omega)
        have l2 : ¬ nI n < nI 0 := fun z => by rw [nI_ltI (by omega) (by omega)] at z; omega
        simp (disch := omega) only [s97_17, s97, s60_7, s60, ClsL.s hK, ClsL.p0 hK, ClsL.p1 hK, ClsL.p2 hK, ClsL.p3 hK, ClsL.p4 hK, ClsL.p5 hK, ClsL.s192 hK, ClsL.s199 hK, b1, hP1, c3, c4, s4, n2, l1, l2, Option.bind_some, Sum.elim_inl, Sum.elim_inr, reduceIte, if_true, if_false, ite_true, ite_false, not_true_eq_false, not_false_eq_true, or_true, true_or, or_false, false_or, and_true, true_and, and_false, false_and, eq_self, ne_eq, Nat.reduceAdd, Nat.reduceMul, Nat.le_refl, ite_self, Nat.reduceEqDiff, Nat.reduceLeDiff, Nat.reduceLT, L_0, L_1, L_2, L_3, L_4, L_5, L_6, L_7, L_8, L_9, L_10, L_11, L_12, L_13, L_14, L_15, L_16, L_24, L_31, L_40, L_48, L_49, L_50, L_51, L_60, L_72, L_99, L_127, L_132, L_172, L_412, L_428, L_429, L_430, L_431, L_432, L_433, L_1000, nI_add, nI_mul, nI_leI, nI_ltI, nI_eq, m_cl, mInb_iff, nI_ng, ng_nI, ng_ng, nI_lt_ng, ng_lt_nI, nI_le_ng, ng_le_nI, mS_UI, mP_UI, mI_UI, show ¬ ((3 : Nat) = 4) by omega, show n < 60 by omega]
      · simp (disch := omega) only [s178, b3, mS_UI, mP_UI, mI_UI, RefL.s hR, RefL.r0 hR, RefL.r1 hR, RefL.r2 hR, RefL.r3 hR, RefL.r4 hR, RefL.r5 hR, RefL.r7 hR, RefL.r8 hR, RefL.r9 hR, RefL.r10 hR, RefL.r12 hR, RefL.r13 hR, RefL.r14 hR, RefL.r15 hR, RefL.r16 hR, RefL.r17 hR, RefL.r18 hR, RefL.r19 hR, RefL.a0 hR, RefL.a1 hR, RefL.a2 hR, RefL.a3 hR, RefL.a4 hR, RefL.a5 hR, RefL.a7 hR, RefL.a8 hR, RefL.a9 hR, RefL.a10 hR, RefL.a12 hR, RefL.a13 hR, RefL.a14 hR, RefL.a15 hR, RefL.a16 hR, RefL.a17 hR, RefL.a18 hR, RefL.a19 hR, n3, e, Option.bind_some, Sum.elim_inl, Sum.elim_inr, reduceIte, if_true, if_false, ite_true, ite_false, not_true_eq_false, not_false_eq_true, or_true, true_or, or_false, false_or, and_true, true_and, and_false, false_and, eq_self, ne_eq, Nat.reduceAdd, Nat.reduceMul, Nat.le_refl, ite_self, Nat.reduceEqDiff, Nat.reduceLeDiff, Nat.reduceLT, L_0, L_1, L_2, L_3, L_4, L_5, L_6, L_7, L_8, L_9, L_10, L_11, L_12, L_13, L_14, L_15, L_16, L_24, L_31, L_40, L_48, L_49, L_50, L_51, L_60, L_72, L_99, L_127, L_132, L_172, L_412, L_428, L_429, L_430, L_431, L_432, L_433, L_1000, nI_add, nI_mul, nI_leI, nI_ltI, nI_eq, m_cl, mInb_iff, nI_ng, ng_nI, ng_ng, nI_lt_ng, ng_lt_nI, nI_le_ng, ng_le_nI, show ¬ ((200 : Nat) = 4) by omega, show ¬ ((200 : Nat) = 3) by omega, show ¬ ((200 : Nat) = 206) by omega, show n < 60 by omega]
      · exact (((hC.fr (Fr_UI (lo := 4) (hi := 5) μ (by omega) (by omega) n (nI c)) (by omega)).fr (Fr_UI (lo := 3) (hi := 4) _ (by omega) (by omega) 1 (nI (n + 1))) (by omega)).fr (Fr_UI (lo := 206) (hi := 207) _ (by omega) (by omega) n (nI c)) (by omega)).fr (Fr_UI (lo := 200) (hi := 201) _ (by omega) (by omega) 6 (nI (n + 1))) (by omega)
      · exact (((hM.fr (Fr_UI (lo := 4) (hi := 5) μ (by omega) (by omega) n (nI c)) (by omega)).fr (Fr_UI (lo := 3) (hi := 4) _ (by omega) (by omega) 1 (nI (n + 1))) (by omega)).fr (Fr_UI (lo := 206) (hi := 207) _ (by omega) (by omega) n (nI c)) (by omega)).fr (Fr_UI (lo := 200) (hi := 201) _ (by omega) (by omega) 6 (nI (n + 1))) (by omega)
      · intro t d k a b e g
        rw [mI_UIr (by unfold wy; omega), mI_UIr (by unfold wy; omega), mI_UIr (by unfold wy; omega), mI_UIr (by unfold wy; omega)]; exact hZ t d k a b e g
      · rw [mI_UIr (by omega), mI_UIr (by omega), mI_UI, if_pos ⟨rfl, rfl⟩]
      · rw [mI_UI, if_pos ⟨rfl, rfl⟩]
      · by_cases e2 : j = n
        · subst e2
          refine ⟨c, hc, ?_, ?_⟩
          · rw [mI_UIr (by omega), mI_UIr (by omega), mI_UIr (by omega), mI_UI, if_pos ⟨rfl, rfl⟩]
          · rw [mI_UIr (by omega), mI_UI, if_pos ⟨rfl, rfl⟩]
        · obtain ⟨c2, z1, z2, z3⟩ := n4 j (by omega)
          refine ⟨c2, z1, ?_, ?_⟩
          · rw [mI_UIr (by omega), mI_UIr (by omega), mI_UIr (by omega), mI_UI, if_neg (by omega)]; exact z2
          · rw [mI_UIr (by omega), mI_UI, if_neg (by omega), mI_UIr (by omega), mI_UIr (by omega)]; exact z3
      · refine hsl.cg rfl (fun q hq => ⟨?_, rfl⟩)
        rw [mI_UIr (by omega), mI_UIr (by omega), mI_UIr (by omega), mI_UIr (by omega)]
      · exact hBZ.cg (fun r hr => by rw [mI_UIr (by unfold ro; omega), mI_UIr (by unfold ro; omega), mI_UIr (by unfold ro; omega), mI_UIr (by unfold ro; omega)]) (fun t d a b => by rw [mI_UIr (by unfold wy; omega), mI_UIr (by unfold wy; omega), mI_UIr (by unfold wy; omega), mI_UIr (by unfold wy; omega)])
  · refine ⟨-nI 1, μ, μ, ?_, ⟨rfl, rfl, by rw [RefL.s hR]⟩, ?_, hI⟩
    · simp (disch := omega) only [s97_17, s97, b1, Option.bind_some, Sum.elim_inl, Sum.elim_inr, reduceIte, if_true, if_false, ite_true, ite_false, not_true_eq_false, not_false_eq_true, or_true, true_or, or_false, false_or, and_true, true_and, and_false, false_and, eq_self, ne_eq, Nat.reduceAdd, Nat.reduceMul, Nat.le_refl, ite_self, Nat.reduceEqDiff, Nat.reduceLeDiff, Nat.reduceLT, L_0, L_1, L_2, L_3, L_4, L_5, L_6, L_7, L_8, L_9, L_10, L_11, L_12, L_13, L_14, L_15, L_16, L_24, L_31, L_40, L_48, L_49, L_50, L_51, L_60, L_72, L_99, L_127, L_132, L_172, L_412, L_428, L_429, L_430, L_431, L_432, L_433, L_1000, nI_add, nI_mul, nI_leI, nI_ltI, nI_eq, m_cl, mInb_iff, nI_ng, ng_nI, ng_ng, nI_lt_ng, ng_lt_nI, nI_le_ng, ng_le_nI]
    · simp (disch := omega) only [s178, b2, Option.bind_some, Sum.elim_inl, Sum.elim_inr, reduceIte, if_true, if_false, ite_true, ite_false, not_true_eq_false, not_false_eq_true, or_true, true_or, or_false, false_or, and_true, true_and, and_false, false_and, eq_self, ne_eq, Nat.reduceAdd, Nat.reduceMul, Nat.le_refl, ite_self, Nat.reduceEqDiff, Nat.reduceLeDiff, Nat.reduceLT, L_0, L_1, L_2, L_3, L_4, L_5, L_6, L_7, L_8, L_9, L_10, L_11, L_12, L_13, L_14, L_15, L_16, L_24, L_31, L_40, L_48, L_49, L_50, L_51, L_60, L_72, L_99, L_127, L_132, L_172, L_412, L_428, L_429, L_430, L_431, L_432, L_433, L_1000, nI_add, nI_mul, nI_leI, nI_ltI, nI_eq, m_cl, mInb_iff, nI_ng, ng_nI, ng_ng, nI_lt_ng, ng_lt_nI, nI_le_ng, ng_le_nI]
theorem op1 : Op1 (Inv L xs) := fun μ hI => by
  obtain ⟨⟨i1, i2⟩, ⟨A, hS, hZ⟩, ⟨n, n1, n2, n3, n4⟩, hsl, hBZ⟩ := id hI
  obtain ⟨hK, hC, hM, ht, hu⟩ := id hS
  have hR := hM.1
  have hP := ClsL.pl hK
  have hP1 : (mS μ 3).1 = 3 := by rw [hP.1]
  have c3 := ClsL.p0 hK
  refine ⟨nI n, mUI μ 3 1 (nI 0), mUI (mUI μ 3 1 (nI 0)) 200 6 (nI 0), ?_, ⟨rfl, by rw [mI_UIr (by omega)], by rw [mS_UI, RefL.s hR]⟩, ?_, ⟨i1, by rw [mI_UIr (by omega), mI_UIr (by omega)]; exact i2⟩, ⟨A, ⟨hK, ?_, ?_, ht, hu⟩, ?_⟩, ⟨0, by omega, ?_, ?_, fun j hj => by omega⟩, ?_, ?_⟩
  · simp (disch := omega) only [s98, ClsL.s hK, ClsL.p0 hK, ClsL.p1 hK, ClsL.p2 hK, ClsL.p3 hK, ClsL.p4 hK, ClsL.p5 hK, ClsL.s192 hK, ClsL.s199 hK, hP1, c3, n2, Option.bind_some, Sum.elim_inl, Sum.elim_inr, reduceIte, if_true, if_false, ite_true, ite_false, not_true_eq_false, not_false_eq_true, or_true, true_or, or_false, false_or, and_true, true_and, and_false, false_and, eq_self, ne_eq, Nat.reduceAdd, Nat.reduceMul, Nat.le_refl, ite_self, Nat.reduceEqDiff, Nat.reduceLeDiff, Nat.reduceLT, L_0, L_1, L_2, L_3, L_4, L_5, L_6, L_7, L_8, L_9, L_10, L_11, L_12, L_13, L_14, L_15, L_16, L_24, L_31, L_40, L_48, L_49, L_50, L_51, L_60, L_72, L_99, L_127, L_132, L_172, L_412, L_428, L_429, L_430, L_431, L_432, L_433, L_1000, nI_add, nI_mul, nI_leI, nI_ltI, nI_eq, m_cl, mInb_iff, nI_ng, ng_nI, ng_ng, nI_lt_ng, ng_lt_nI, nI_le_ng, ng_le_nI]
  · simp (disch := omega) only [s179, mS_UI, mP_UI, mI_UI, RefL.s hR, RefL.r0 hR, RefL.r1 hR, RefL.r2 hR, RefL.r3 hR, RefL.r4 hR, RefL.r5 hR, RefL.r7 hR, RefL.r8 hR, RefL.r9 hR, RefL.r10 hR, RefL.r12 hR, RefL.r13 hR, RefL.r14 hR, RefL.r15 hR, RefL.r16 hR, RefL.r17 hR, RefL.r18 hR, RefL.r19 hR, RefL.a0 hR, RefL.a1 hR, RefL.a2 hR, RefL.a3 hR, RefL.a4 hR, RefL.a5 hR, RefL.a7 hR, RefL.a8 hR, RefL.a9 hR, RefL.a10 hR, RefL.a12 hR, RefL.a13 hR, RefL.a14 hR, RefL.a15 hR, RefL.a16 hR, RefL.a17 hR, RefL.a18 hR, RefL.a19 hR, n3, Option.bind_some, Sum.elim_inl, Sum.elim_inr, reduceIte, if_true, if_false, ite_true, ite_false, not_true_eq_false, not_false_eq_true, or_true, true_or, or_false, false_or, and_true, true_and, and_false, false_and, eq_self, ne_eq, Nat.reduceAdd, Nat.reduceMul, Nat.le_refl, ite_self, Nat.reduceEqDiff, Nat.reduceLeDiff, Nat.reduceLT, L_0, L_1, L_2, L_3, L_4, L_5, L_6, L_7, L_8, L_9, L_10, L_11, L_12, L_13, L_14, L_15, L_16, L_24, L_31, L_40, L_48, L_49, L_50, L_51, L_60, L_72, L_99, L_127, L_132, L_172, L_412, L_428, L_429, L_430, L_431, L_432, L_433, L_1000, nI_add, nI_mul, nI_leI, nI_ltI, nI_eq, m_cl, mInb_iff, nI_ng, ng_nI, ng_ng, nI_lt_ng, ng_lt_nI, nI_le_ng, ng_le_nI, show ¬ ((200 : Nat) = 3) by omega]
  · exact (hC.fr (Fr_UI (lo := 3) (hi := 4) μ (by omega) (by omega) 1 (nI 0)) (by omega)).fr (Fr_UI (lo := 200) (hi := 201) _ (by omega) (by omega) 6 (nI 0)) (by omega)
  · exact (hM.fr (Fr_UI (lo := 3) (hi := 4) μ (by omega) (by omega) 1 (nI 0)) (by omega)).fr (Fr_UI (lo := 200) (hi := 201) _ (by omega) (by omega) 6 (nI 0)) (by omega)
  · intro t d k a b e g
    rw [mI_UIr (by unfold wy; omega), mI_UIr (by unfold wy; omega)]; exact hZ t d k a b e g
  · rw [mI_UIr (by omega), mI_UI, if_pos ⟨rfl, rfl⟩]
  · rw [mI_UI, if_pos ⟨rfl, rfl⟩]
  · refine hsl.cg rfl (fun q hq => ⟨?_, rfl⟩)
    rw [mI_UIr (by omega), mI_UIr (by omega)]
  · exact hBZ.cg (fun r hr => by rw [mI_UIr (by unfold ro; omega), mI_UIr (by unfold ro; omega)]) (fun t d a b => by rw [mI_UIr (by unfold wy; omega), mI_UIr (by unfold wy; omega)])
theorem wfu_w (hu : WFu A) (h1 : A'.1 = A.1) (h2 : A'.2.1 = A.2.1) (h3 : aC A' 3 ≤ 9 ∧ 1 ≤ aC A' 3) (hW : ∀ t, t < 10 → aT A t 0 = 1 → (∀ d, d < 2 → aW A' t d 4 0 ≤ 99 ∧ ∀ h, h < 4 → aW A' t d h 2 ≤ aW A' t d h 1 ∧ aW A' t d h 1 ≤ 6 ∧ aW A' t d h 0 ≤ 15) ∧ (∀ d h, d < 2 → h < wN A t d → 8 ≤ aW A' t d h 0) ∧ (∀ d h k, d < 2 → h < 4 → k < 3 → wN A t d ≤ h → aW A' t d h k = 0) ∧ (aT A t 1 = 0 → aW A' t 1 4 0 = 0 ∧ aW A' t 1 4 1 = 0)) : WFu A' := by
  obtain ⟨R', T', W', C', L'⟩ := A'
  obtain ⟨R, T, W, C, L⟩ := A
  simp only at h1 h2
  subst h1 h2
  have gn : ∀ a d, wN (R', T', W', C', L') a d = wN (R', T', W, C, L) a d := fun a d => wN_cg (fun _ => rfl) rfl rfl
  refine ⟨hu.1, h3, fun a ha ho => ?_, fun r a1 a2 a3 => ?_, hu.2.2.2.2⟩
  · obtain ⟨o1, o2, o3, o4, o5, o6, o7, o8, -⟩ := hu.o ha ho
    obtain ⟨w1, w2, w3, w4⟩ := hW a ha ho
    exact ⟨o1, o2, o3, o4, o5, o6, o7, o8, w1, fun d h b c => w2 d h b (by rw [gn] at c; exact c), fun d h k b c e g => w3 d h k b c e (by rw [gn] at g; exact g), w4⟩
  · have e : rsv (R', T', W', C', L') r = rsv (R', T', W, C, L) r := by
      unfold rsv
      refine sumN_congr (fun a ha => ?_)
      rw [us_cg (A' := (R', T', W', C', L')) (A := (R', T', W, C, L)) (fun _ => rfl) rfl rfl rfl]
    rw [e, cap_cg (A' := (R', T', W', C', L')) (A := (R', T', W, C, L)) (fun _ => rfl) (fun _ => rfl) rfl]
    exact hu.rsv a1 a2 a3
theorem op21 : Op21 (Inv L xs) := fun x => CI_op fun μ A hS hZ => by
  obtain ⟨hK, hC, hM, ht, hu⟩ := hS
  have hR := hM.1
  have hF := hC.1
  have c3 := hM.2.2.2.2.2.2.1 3 (by omega)
  simp only [Nat.reduceAdd] at c3
  rcases btw μ x 1 9 (by omega) (by omega) with ⟨c, rfl, hc1, hc, b1, b2⟩ | ⟨hx, b1, b2⟩
  · have hf : FrF 11 μ (mUI μ 11 2 (nI c)) := FrF_f
    have hM1 := hf.C.rs hM
    have b3 : s144 (mUI μ 11 2 (nI c)) (nI c) (nI 1) (nI 9) = some (nI 1) := by rw [k144 (by omega) (by omega) (by omega)]; simp [hc, hc1, bI]
    refine ⟨nI (aC A 3), mUI μ 11 2 (nI c), mUI (mUI μ 11 2 (nI c)) 201 431 (nI c), setC A 3 c, ?_, hf.C, CS.uC3 hC (WN.of ht hu), ?_, ?_, Fr.R (Fr_UI (lo := 201) (hi := 203) _ (by omega) (by omega) _ _) (by omega), RS.uC (k := 3) hM1 (by omega), ht.cg rfl rfl, ?_⟩
    · simp (disch := omega) only [s118, ClsL.s hK, ClsL.p0 hK, ClsL.p1 hK, ClsL.p2 hK, ClsL.p3 hK, ClsL.p4 hK, ClsL.p5 hK, ClsL.s192 hK, ClsL.s199 hK, FabL.s0 hF, FabL.p0 hF, FabL.p1 hF, FabL.s1 hF, FabL.s2 hF, FabL.r hF, FabL.rs hF, FabL.rl hF, FabL.ls hF, FabL.l5 hF, FabL.l6 hF, FabL.l7 hF, FabL.l8 hF, FabL.q2 hF, FabL.q3 hF, FabL.q4 hF, FabL.q5 hF, FabL.tp hF, FabL.ts hF, FabL.td hF, FabL.tw hF, FabL.ws hF, FabL.w4 hF, FabL.w5 hF, FabL.w6 hF, FabL.w7 hF, FabL.w8 hF, FabL.v1 hF, FabL.v2 hF, FabL.v3 hF, FabL.v4 hF, FabL.v5 hF, b1, RepC.k2 hC.2, Option.bind_some, Sum.elim_inl, Sum.elim_inr, reduceIte, if_true, if_false, ite_true, ite_false, not_true_eq_false, not_false_eq_true, or_true, true_or, or_false, false_or, and_true, true_and, and_false, false_and, eq_self, ne_eq, Nat.reduceAdd, Nat.reduceMul, Nat.le_refl, ite_self, Nat.reduceEqDiff, Nat.reduceLeDiff, Nat.reduceLT, L_0, L_1, L_2, L_3, L_4, L_5, L_6, L_7, L_8, L_9, L_10, L_11, L_12, L_13, L_14, L_15, L_16, L_24, L_31, L_40, L_48, L_49, L_50, L_51, L_60, L_72, L_99, L_127, L_132, L_172, L_412, L_428, L_429, L_430, L_431, L_432, L_433, L_1000, nI_add, nI_mul, nI_leI, nI_ltI, nI_eq, m_cl, mInb_iff, nI_ng, ng_nI, ng_ng, nI_lt_ng, ng_lt_nI, nI_le_ng, ng_le_nI]
    · exact hZ.cg hf rfl (fun _ => ⟨rfl, rfl⟩) (fun _ _ z => z)
    · simp (disch := omega) only [s221, b3, mS_UI, mP_UI, mI_UI, RefL.s hR, RefL.r0 hR, RefL.r1 hR, RefL.r2 hR, RefL.r3 hR, RefL.r4 hR, RefL.r5 hR, RefL.r7 hR, RefL.r8 hR, RefL.r9 hR, RefL.r10 hR, RefL.r12 hR, RefL.r13 hR, RefL.r14 hR, RefL.r15 hR, RefL.r16 hR, RefL.r17 hR, RefL.r18 hR, RefL.r19 hR, RefL.a0 hR, RefL.a1 hR, RefL.a2 hR, RefL.a3 hR, RefL.a4 hR, RefL.a5 hR, RefL.a7 hR, RefL.a8 hR, RefL.a9 hR, RefL.a10 hR, RefL.a12 hR, RefL.a13 hR, RefL.a14 hR, RefL.a15 hR, RefL.a16 hR, RefL.a17 hR, RefL.a18 hR, RefL.a19 hR, c3, Option.bind_some, Sum.elim_inl, Sum.elim_inr, reduceIte, if_true, if_false, ite_true, ite_false, not_true_eq_false, not_false_eq_true, or_true, true_or, or_false, false_or, and_true, true_and, and_false, false_and, eq_self, ne_eq, Nat.reduceAdd, Nat.reduceMul, Nat.le_refl, ite_self, Nat.reduceEqDiff, Nat.reduceLeDiff, Nat.reduceLT, L_0, L_1, L_2, L_3, L_4, L_5, L_6, L_7, L_8, L_9, L_10, L_11, L_12, L_13, L_14, L_15, L_16, L_24, L_31, L_40, L_48, L_49, L_50, L_51, L_60, L_72, L_99, L_127, L_132, L_172, L_412, L_428, L_429, L_430, L_431, L_432, L_433, L_1000, nI_add, nI_mul, nI_leI, nI_ltI, nI_eq, m_cl, mInb_iff, nI_ng, ng_nI, ng_ng, nI_lt_ng, ng_lt_nI, nI_le_ng, ng_le_nI, L_431, show ¬ ((201 : Nat) = 11) by omega]
    · exact wfu_w hu rfl rfl ⟨by rw [aC_setC, if_pos rfl]; exact hc, by rw [aC_setC, if_pos rfl]; exact hc1⟩ (fun t a b => (hu.o a b).2.2.2.2.2.2.2.2)
  · refine ⟨-nI 1, μ, μ, A, ?_, FrC.refl _, hC, hZ, ?_, FrR.refl _, hM, ht, hu⟩
    · simp (disch := omega) only [s118, b1, Option.bind_some, Sum.elim_inl, Sum.elim_inr, reduceIte, if_true, if_false, ite_true, ite_false, not_true_eq_false, not_false_eq_true, or_true, true_or, or_false, false_or, and_true, true_and, and_false, false_and, eq_self, ne_eq, Nat.reduceAdd, Nat.reduceMul, Nat.le_refl, ite_self, Nat.reduceEqDiff, Nat.reduceLeDiff, Nat.reduceLT, L_0, L_1, L_2, L_3, L_4, L_5, L_6, L_7, L_8, L_9, L_10, L_11, L_12, L_13, L_14, L_15, L_16, L_24, L_31, L_40, L_48, L_49, L_50, L_51, L_60, L_72, L_99, L_127, L_132, L_172, L_412, L_428, L_429, L_430, L_431, L_432, L_433, L_1000, nI_add, nI_mul, nI_leI, nI_ltI, nI_eq, m_cl, mInb_iff, nI_ng, ng_nI, ng_ng, nI_lt_ng, ng_lt_nI, nI_le_ng, ng_le_nI]
    · simp (disch := omega) only [s221, b2, Option.bind_some, Sum.elim_inl, Sum.elim_inr, reduceIte, if_true, if_false, ite_true, ite_false, not_true_eq_false, not_false_eq_true, or_true, true_or, or_false, false_or, and_true, true_and, and_false, false_and, eq_self, ne_eq, Nat.reduceAdd, Nat.reduceMul, Nat.le_refl, ite_self, Nat.reduceEqDiff, Nat.reduceLeDiff, Nat.reduceLT, L_0, L_1, L_2, L_3, L_4, L_5, L_6, L_7, L_8, L_9, L_10, L_11, L_12, L_13, L_14, L_15, L_16, L_24, L_31, L_40, L_48, L_49, L_50, L_51, L_60, L_72, L_99, L_127, L_132, L_172, L_412, L_428, L_429, L_430, L_431, L_432, L_433, L_1000, nI_add, nI_mul, nI_leI, nI_ltI, nI_eq, m_cl, mInb_iff, nI_ng, ng_nI, ng_ng, nI_lt_ng, ng_lt_nI, nI_le_ng, ng_le_nI]
theorem op16 : Op16 (Inv L xs) := fun x y z => CI_op fun μ A hS hZ => by
  obtain ⟨hK, hC, hM, ht, hu⟩ := hS
  have hR := hM.1
  have hF := hC.1
  rcases tun hC hM hu x with ⟨t, rfl, htt, ho, l1, l2⟩ | ⟨l1, l2⟩
  · obtain ⟨o1, o2, o3, o4, o5, o6, o7, o8, o9, o10, o11, o12⟩ := hu.o htt ho
    rcases dir μ y with ⟨d, rfl, hd, d1, d2⟩ | ⟨d1, d2⟩
    · rcases btw μ z 1 99 (by omega) (by omega) with ⟨c, rfl, hc1, hc, b1, b2⟩ | ⟨-, b1, b2⟩
      · have hq := (o9 d hd).1
        have e6 := hM.2.2.2.1 t d 0 htt hd (by omega)
        rcases wUN (A := A) (t := t) (d := d) with ⟨u1, u2⟩ | ⟨u1, u2⟩
        · refine ⟨-nI 2, μ, μ, A, ?_, FrC.refl _, hC, hZ, ?_, FrR.refl _, hM, ht, hu⟩
          · simp (disch := omega) only [s113_13, s113, ClsL.s hK, ClsL.p0 hK, ClsL.p1 hK, ClsL.p2 hK, ClsL.p3 hK, ClsL.p4 hK, ClsL.p5 hK, ClsL.s192 hK, ClsL.s199 hK, FabL.s0 hF, FabL.p0 hF, FabL.p1 hF, FabL.s1 hF, FabL.s2 hF, FabL.r hF, FabL.rs hF, FabL.rl hF, FabL.ls hF, FabL.l5 hF, FabL.l6 hF, FabL.l7 hF, FabL.l8 hF, FabL.q2 hF, FabL.q3 hF, FabL.q4 hF, FabL.q5 hF, FabL.tp hF, FabL.ts hF, FabL.td hF, FabL.tw hF, FabL.ws hF, FabL.w4 hF, FabL.w5 hF, FabL.w6 hF, FabL.w7 hF, FabL.w8 hF, FabL.v1 hF, FabL.v2 hF, FabL.v3 hF, FabL.v4 hF, FabL.v5 hF, l1, d1, b1, j78 hF, RepC.w0 hC.2, Option.bind_some, Sum.elim_inl, Sum.elim_inr, reduceIte, if_true, if_false, ite_true, ite_false, not_true_eq_false, not_false_eq_true, or_true, true_or, or_false, false_or, and_true, true_and, and_false, false_and, eq_self, ne_eq, Nat.reduceAdd, Nat.reduceMul, Nat.le_refl, ite_self, Nat.reduceEqDiff, Nat.reduceLeDiff, Nat.reduceLT, L_0, L_1, L_2, L_3, L_4, L_5, L_6, L_7, L_8, L_9, L_10, L_11, L_12, L_13, L_14, L_15, L_16, L_24, L_31, L_40, L_48, L_49, L_50, L_51, L_60, L_72, L_99, L_127, L_132, L_172, L_412, L_428, L_429, L_430, L_431, L_432, L_433, L_1000, nI_add, nI_mul, nI_leI, nI_ltI, nI_eq, m_cl, mInb_iff, nI_ng, ng_nI, ng_ng, nI_lt_ng, ng_lt_nI, nI_le_ng, ng_le_nI, htt, u1]
          · simp (disch := omega) only [s204_14, s204, RefL.s hR, RefL.r0 hR, RefL.r1 hR, RefL.r2 hR, RefL.r3 hR, RefL.r4 hR, RefL.r5 hR, RefL.r7 hR, RefL.r8 hR, RefL.r9 hR, RefL.r10 hR, RefL.r12 hR, RefL.r13 hR, RefL.r14 hR, RefL.r15 hR, RefL.r16 hR, RefL.r17 hR, RefL.r18 hR, RefL.r19 hR, RefL.a0 hR, RefL.a1 hR, RefL.a2 hR, RefL.a3 hR, RefL.a4 hR, RefL.a5 hR, RefL.a7 hR, RefL.a8 hR, RefL.a9 hR, RefL.a10 hR, RefL.a12 hR, RefL.a13 hR, RefL.a14 hR, RefL.a15 hR, RefL.a16 hR, RefL.a17 hR, RefL.a18 hR, RefL.a19 hR, l2, d2, b2, k203 hM hu, Option.bind_some, Sum.elim_inl, Sum.elim_inr, reduceIte, if_true, if_false, ite_true, ite_false, not_true_eq_false, not_false_eq_true, or_true, true_or, or_false, false_or, and_true, true_and, and_false, false_and, eq_self, ne_eq, Nat.reduceAdd, Nat.reduceMul, Nat.le_refl, ite_self, Nat.reduceEqDiff, Nat.reduceLeDiff, Nat.reduceLT, L_0, L_1, L_2, L_3, L_4, L_5, L_6, L_7, L_8, L_9, L_10, L_11, L_12, L_13, L_14, L_15, L_16, L_24, L_31, L_40, L_48, L_49, L_50, L_51, L_60, L_72, L_99, L_127, L_132, L_172, L_412, L_428, L_429, L_430, L_431, L_432, L_433, L_1000, nI_add, nI_mul, nI_leI, nI_ltI, nI_eq, m_cl, mInb_iff, nI_ng, ng_nI, ng_ng, nI_lt_ng, ng_lt_nI, nI_le_ng, ng_le_nI, u1]
        · by_cases e : aW A t d 4 0 + c ≤ 99
          · have hf : FrF 11 μ (mUI μ (wy 11 t d) 2 (nI (aW A t d 4 0 + c))) := FrF_wy (j := 0) htt hd (by omega) (Or.inl (by omega))
            have hM1 := hf.C.rs hM
            have hC1 := CS.uQ0 (v := aW A t d 4 0 + c) hC (WN.of ht hu) htt hd
            have hRR := RS.uQ (v := aW A t d 4 0 + c) (k := 0) hM1 htt hd (by omega)
            refine ⟨nI (aW A t d 4 0 + c), mUI μ (wy 11 t d) 2 (nI (aW A t d 4 0 + c)), mUI (mUI μ (wy 11 t d) 2 (nI (aW A t d 4 0 + c))) 201 (132 + 4 * t + 2 * d) (nI (aW A t d 4 0 + c)), setW A t d 4 0 (aW A t d 4 0 + c), ?_, hf.C, hC1, ?_, ?_, Fr.R (Fr_UI (lo := 201) (hi := 203) _ (by omega) (by omega) _ _) (by omega), hRR, ht.cg rfl rfl, ?_⟩
            · simp (disch := omega) only [s113_13, s113, ClsL.s hK, ClsL.p0 hK, ClsL.p1 hK, ClsL.p2 hK, ClsL.p3 hK, ClsL.p4 hK, ClsL.p5 hK, ClsL.s192 hK, ClsL.s199 hK, FabL.s0 hF, FabL.p0 hF, FabL.p1 hF, FabL.s1 hF, FabL.s2 hF, FabL.r hF, FabL.rs hF, FabL.rl hF, FabL.ls hF, FabL.l5 hF, FabL.l6 hF, FabL.l7 hF, FabL.l8 hF, FabL.q2 hF, FabL.q3 hF, FabL.q4 hF, FabL.q5 hF, FabL.tp hF, FabL.ts hF, FabL.td hF, FabL.tw hF, FabL.ws hF, FabL.w4 hF, FabL.w5 hF, FabL.w6 hF, FabL.w7 hF, FabL.w8 hF, FabL.v1 hF, FabL.v2 hF, FabL.v3 hF, FabL.v4 hF, FabL.v5 hF, l1, d1, b1, j78 hF, RepC.w0 hC.2, RepC.w2 hC.2, Option.bind_some, Sum.elim_inl, Sum.elim_inr, reduceIte, if_true, if_false, ite_true, ite_false, not_true_eq_false, not_false_eq_true, or_true, true_or, or_false, false_or, and_true, true_and, and_false, false_and, eq_self, ne_eq, Nat.reduceAdd, Nat.reduceMul, Nat.le_refl, ite_self, Nat.reduceEqDiff, Nat.reduceLeDiff, Nat.reduceLT, L_0, L_1, L_2, L_3, L_4, L_5, L_6, L_7, L_8, L_9, L_10, L_11, L_12, L_13, L_14, L_15, L_16, L_24, L_31, L_40, L_48, L_49, L_50, L_51, L_60, L_72, L_99, L_127, L_132, L_172, L_412, L_428, L_429, L_430, L_431, L_432, L_433, L_1000, nI_add, nI_mul, nI_leI, nI_ltI, nI_eq, m_cl, mInb_iff, nI_ng, ng_nI, ng_ng, nI_lt_ng, ng_lt_nI, nI_le_ng, ng_le_nI, htt, u1, e, mI_UI, and_self]
            · exact hZ.cg hf rfl (fun _ => ⟨rfl, rfl⟩) (fun _ _ z => z)
            · have l2' : s161 (mUI μ (wy 11 t d) 2 (nI (aW A t d 4 0 + c))) 200 (nI t) = some (nI 1) := by
                rw [k161 hM1 htt (by omega)]; simp [ho, bI]
              have d2' : s144 (mUI μ (wy 11 t d) 2 (nI (aW A t d 4 0 + c))) (nI d) (nI 0) (nI 1) = some (nI 1) := by rw [k144 (by omega) (by omega) (by omega)]; simp [bI]; omega
              have b2' : s144 (mUI μ (wy 11 t d) 2 (nI (aW A t d 4 0 + c))) (nI c) (nI 1) (nI 99) = some (nI 1) := by rw [k144 (by omega) (by omega) (by omega)]; simp [hc, hc1, bI]
              have e7 := hM1.2.2.2.1 t d 0 htt hd (by omega)
              have hk := k203 hM1 hu htt ho hd
              generalize mUI μ (wy 11 t d) 2 (nI (aW A t d 4 0 + c)) = ν at *
              have hR := hM1.1
              rw [Nat.add_zero] at e7
              have e8 : 132 + 4 * t + 2 * d < 433 := by omega
              simp (disch := omega) only [s204_14, s204, RefL.s hR, RefL.r0 hR, RefL.r1 hR, RefL.r2 hR, RefL.r3 hR, RefL.r4 hR, RefL.r5 hR, RefL.r7 hR, RefL.r8 hR, RefL.r9 hR, RefL.r10 hR, RefL.r12 hR, RefL.r13 hR, RefL.r14 hR, RefL.r15 hR, RefL.r16 hR, RefL.r17 hR, RefL.r18 hR, RefL.r19 hR, RefL.a0 hR, RefL.a1 hR, RefL.a2 hR, RefL.a3 hR, RefL.a4 hR, RefL.a5 hR, RefL.a7 hR, RefL.a8 hR, RefL.a9 hR, RefL.a10 hR, RefL.a12 hR, RefL.a13 hR, RefL.a14 hR, RefL.a15 hR, RefL.a16 hR, RefL.a17 hR, RefL.a18 hR, RefL.a19 hR, l2', d2', b2', hk, Option.bind_some, Sum.elim_inl, Sum.elim_inr, reduceIte, if_true, if_false, ite_true, ite_false, not_true_eq_false, not_false_eq_true, or_true, true_or, or_false, false_or, and_true, true_and, and_false, false_and, eq_self, ne_eq, Nat.reduceAdd, Nat.reduceMul, Nat.le_refl, ite_self, Nat.reduceEqDiff, Nat.reduceLeDiff, Nat.reduceLT, L_0, L_1, L_2, L_3, L_4, L_5, L_6, L_7, L_8, L_9, L_10, L_11, L_12, L_13, L_14, L_15, L_16, L_24, L_31, L_40, L_48, L_49, L_50, L_51, L_60, L_72, L_99, L_127, L_132, L_172, L_412, L_428, L_429, L_430, L_431, L_432, L_433, L_1000, nI_add, nI_mul, nI_leI, nI_ltI, nI_eq, m_cl, mInb_iff, nI_ng, ng_nI, ng_ng, nI_lt_ng, ng_lt_nI, nI_le_ng, ng_le_nI, u1, e7, e, e8, mS_UI, mP_UI, mI_UI, and_self]
            · refine wfu_w hu rfl rfl hu.2.1 (fun a ha hao => ?_)
              obtain ⟨p1, p2, p3, p4, p5, p6, p7, p8, p9, p10, p11, p12⟩ := hu.o ha hao
              refine ⟨fun b hb => ⟨?_, fun h hh => ?_⟩, fun b h hb hh => ?_, fun b h k hb hh hk hn => ?_, fun z => ⟨?_, ?_⟩⟩
              · rw [aW_setW]; by_cases q : a = t ∧ b = d
                · rw [if_pos (by omega)]; exact e
                · rw [if_neg (by omega)]; exact (p9 b hb).1
              · simp only [aW_setW, show ¬ h = 4 by omega, false_and, and_false, if_false]; exact (p9 b hb).2 h hh
              · have := wN_le (d := b) ht hu ha hao
                rw [aW_setW, if_neg (by omega)]; exact p10 b h hb hh
              · rw [aW_setW, if_neg (by omega)]; exact p11 b h k hb hh hk hn
              · rw [aW_setW]; by_cases q : a = t ∧ 1 = d
                · exfalso
                  obtain ⟨q1, q2⟩ := q
                  subst q1 q2
                  unfold wU at u1; rw [if_pos ⟨rfl, z⟩] at u1; omega
                · rw [if_neg (by omega)]; exact (p12 z).1
              · rw [aW_setW, if_neg (by omega)]; exact (p12 z).2
          · refine ⟨-nI 5, μ, μ, A, ?_, FrC.refl _, hC, hZ, ?_, FrR.refl _, hM, ht, hu⟩
            · simp (disch := omega) only [s113_13, s113, ClsL.s hK, ClsL.p0 hK, ClsL.p1 hK, ClsL.p2 hK, ClsL.p3 hK, ClsL.p4 hK, ClsL.p5 hK, ClsL.s192 hK, ClsL.s199 hK, FabL.s0 hF, FabL.p0 hF, FabL.p1 hF, FabL.s1 hF, FabL.s2 hF, FabL.r hF, FabL.rs hF, FabL.rl hF, FabL.ls hF, FabL.l5 hF, FabL.l6 hF, FabL.l7 hF, FabL.l8 hF, FabL.q2 hF, FabL.q3 hF, FabL.q4 hF, FabL.q5 hF, FabL.tp hF, FabL.ts hF, FabL.td hF, FabL.tw hF, FabL.ws hF, FabL.w4 hF, FabL.w5 hF, FabL.w6 hF, FabL.w7 hF, FabL.w8 hF, FabL.v1 hF, FabL.v2 hF, FabL.v3 hF, FabL.v4 hF, FabL.v5 hF, l1, d1, b1, j78 hF, RepC.w0 hC.2, RepC.w2 hC.2, Option.bind_some, Sum.elim_inl, Sum.elim_inr, reduceIte, if_true, if_false, ite_true, ite_false, not_true_eq_false, not_false_eq_true, or_true, true_or, or_false, false_or, and_true, true_and, and_false, false_and, eq_self, ne_eq, Nat.reduceAdd, Nat.reduceMul, Nat.le_refl, ite_self, Nat.reduceEqDiff, Nat.reduceLeDiff, Nat.reduceLT, L_0, L_1, L_2, L_3, L_4, L_5, L_6, L_7, L_8, L_9, L_10, L_11, L_12, L_13, L_14, L_15, L_16, L_24, L_31, L_40, L_48, L_49, L_50, L_51, L_60, L_72, L_99, L_127, L_132, L_172, L_412, L_428, L_429, L_430, L_431, L_432, L_433, L_1000, nI_add, nI_mul, nI_leI, nI_ltI, nI_eq, m_cl, mInb_iff, nI_ng, ng_nI, ng_ng, nI_lt_ng, ng_lt_nI, nI_le_ng, ng_le_nI, htt, u1, e]
            · rw [Nat.add_zero] at e6
              have e8 : 132 + 4 * t + 2 * d < 433 := by omega
              simp (disch := omega) only [s204_14, s204, RefL.s hR, RefL.r0 hR, RefL.r1 hR, RefL.r2 hR, RefL.r3 hR, RefL.r4 hR, RefL.r5 hR, RefL.r7 hR, RefL.r8 hR, RefL.r9 hR, RefL.r10 hR, RefL.r12 hR, RefL.r13 hR, RefL.r14 hR, RefL.r15 hR, RefL.r16 hR, RefL.r17 hR, RefL.r18 hR, RefL.r19 hR, RefL.a0 hR, RefL.a1 hR, RefL.a2 hR, RefL.a3 hR, RefL.a4 hR, RefL.a5 hR, RefL.a7 hR, RefL.a8 hR, RefL.a9 hR, RefL.a10 hR, RefL.a12 hR, RefL.a13 hR, RefL.a14 hR, RefL.a15 hR, RefL.a16 hR, RefL.a17 hR, RefL.a18 hR, RefL.a19 hR, l2, d2, b2, k203 hM hu, Option.bind_some, Sum.elim_inl, Sum.elim_inr, reduceIte, if_true, if_false, ite_true, ite_false, not_true_eq_false, not_false_eq_true, or_true, true_or, or_false, false_or, and_true, true_and, and_false, false_and, eq_self, ne_eq, Nat.reduceAdd, Nat.reduceMul, Nat.le_refl, ite_self, Nat.reduceEqDiff, Nat.reduceLeDiff, Nat.reduceLT, L_0, L_1, L_2, L_3, L_4, L_5, L_6, L_7, L_8, L_9, L_10, L_11, L_12, L_13, L_14, L_15, L_16, L_24, L_31, L_40, L_48, L_49, L_50, L_51, L_60, L_72, L_99, L_127, L_132, L_172, L_412, L_428, L_429, L_430, L_431, L_432, L_433, L_1000, nI_add, nI_mul, nI_leI, nI_ltI, nI_eq, m_cl, mInb_iff, nI_ng, ng_nI, ng_ng, nI_lt_ng, ng_lt_nI, nI_le_ng, ng_le_nI, u1, e6, e, e8]
      · refine ⟨-nI 1, μ, μ, A, ?_, FrC.refl _, hC, hZ, ?_, FrR.refl _, hM, ht, hu⟩
        · simp (disch := omega) only [s113_13, s113, ClsL.s hK, ClsL.p0 hK, ClsL.p1 hK, ClsL.p2 hK, ClsL.p3 hK, ClsL.p4 hK, ClsL.p5 hK, ClsL.s192 hK, ClsL.s199 hK, FabL.s0 hF, FabL.p0 hF, FabL.p1 hF, FabL.s1 hF, FabL.s2 hF, FabL.r hF, FabL.rs hF, FabL.rl hF, FabL.ls hF, FabL.l5 hF, FabL.l6 hF, FabL.l7 hF, FabL.l8 hF, FabL.q2 hF, FabL.q3 hF, FabL.q4 hF, FabL.q5 hF, FabL.tp hF, FabL.ts hF, FabL.td hF, FabL.tw hF, FabL.ws hF, FabL.w4 hF, FabL.w5 hF, FabL.w6 hF, FabL.w7 hF, FabL.w8 hF, FabL.v1 hF, FabL.v2 hF, FabL.v3 hF, FabL.v4 hF, FabL.v5 hF, l1, d1, b1, Option.bind_some, Sum.elim_inl, Sum.elim_inr, reduceIte, if_true, if_false, ite_true, ite_false, not_true_eq_false, not_false_eq_true, or_true, true_or, or_false, false_or, and_true, true_and, and_false, false_and, eq_self, ne_eq, Nat.reduceAdd, Nat.reduceMul, Nat.le_refl, ite_self, Nat.reduceEqDiff, Nat.reduceLeDiff, Nat.reduceLT, L_0, L_1, L_2, L_3, L_4, L_5, L_6, L_7, L_8, L_9, L_10, L_11, L_12, L_13, L_14, L_15, L_16, L_24, L_31, L_40, L_48, L_49, L_50, L_51, L_60, L_72, L_99, L_127, L_132, L_172, L_412, L_428, L_429, L_430, L_431, L_432, L_433, L_1000, nI_add, nI_mul, nI_leI, nI_ltI, nI_eq, m_cl, mInb_iff, nI_ng, ng_nI, ng_ng, nI_lt_ng, ng_lt_nI, nI_le_ng, ng_le_nI]
        · simp (disch := omega) only [s204_14, s204, RefL.s hR, RefL.r0 hR, RefL.r1 hR, RefL.r2 hR, RefL.r3 hR, RefL.r4 hR, RefL.r5 hR, RefL.r7 hR, RefL.r8 hR, RefL.r9 hR, RefL.r10 hR, RefL.r12 hR, RefL.r13 hR, RefL.r14 hR, RefL.r15 hR, RefL.r16 hR, RefL.r17 hR, RefL.r18 hR, RefL.r19 hR, RefL.a0 hR, RefL.a1 hR, RefL.a2 hR, RefL.a3 hR, RefL.a4 hR, RefL.a5 hR, RefL.a7 hR, RefL.a8 hR, RefL.a9 hR, RefL.a10 hR, RefL.a12 hR, RefL.a13 hR, RefL.a14 hR, RefL.a15 hR, RefL.a16 hR, RefL.a17 hR, RefL.a18 hR, RefL.a19 hR, l2, d2, b2, Option.bind_some, Sum.elim_inl, Sum.elim_inr, reduceIte, if_true, if_false, ite_true, ite_false, not_true_eq_false, not_false_eq_true, or_true, true_or, or_false, false_or, and_true, true_and, and_false, false_and, eq_self, ne_eq, Nat.reduceAdd, Nat.reduceMul, Nat.le_refl, ite_self, Nat.reduceEqDiff, Nat.reduceLeDiff, Nat.reduceLT, L_0, L_1, L_2, L_3, L_4, L_5, L_6, L_7, L_8, L_9, L_10, L_11, L_12, L_13, L_14, L_15, L_16, L_24, L_31, L_40, L_48, L_49, L_50, L_51, L_60, L_72, L_99, L_127, L_132, L_172, L_412, L_428, L_429, L_430, L_431, L_432, L_433, L_1000, nI_add, nI_mul, nI_leI, nI_ltI, nI_eq, m_cl, mInb_iff, nI_ng, ng_nI, ng_ng, nI_lt_ng, ng_lt_nI, nI_le_ng, ng_le_nI]
    · refine ⟨-nI 1, μ, μ, A, ?_, FrC.refl _, hC, hZ, ?_, FrR.refl _, hM, ht, hu⟩
      · simp (disch := omega) only [s113_13, s113, ClsL.s hK, ClsL.p0 hK, ClsL.p1 hK, ClsL.p2 hK, ClsL.p3 hK, ClsL.p4 hK, ClsL.p5 hK, ClsL.s192 hK, ClsL.s199 hK, FabL.s0 hF, FabL.p0 hF, FabL.p1 hF, FabL.s1 hF, FabL.s2 hF, FabL.r hF, FabL.rs hF, FabL.rl hF, FabL.ls hF, FabL.l5 hF, FabL.l6 hF, FabL.l7 hF, FabL.l8 hF, FabL.q2 hF, FabL.q3 hF, FabL.q4 hF, FabL.q5 hF, FabL.tp hF, FabL.ts hF, FabL.td hF, FabL.tw hF, FabL.ws hF, FabL.w4 hF, FabL.w5 hF, FabL.w6 hF, FabL.w7 hF, FabL.w8 hF, FabL.v1 hF, FabL.v2 hF, FabL.v3 hF, FabL.v4 hF, FabL.v5 hF, l1, d1, Option.bind_some, Sum.elim_inl, Sum.elim_inr, reduceIte, if_true, if_false, ite_true, ite_false, not_true_eq_false, not_false_eq_true, or_true, true_or, or_false, false_or, and_true, true_and, and_false, false_and, eq_self, ne_eq, Nat.reduceAdd, Nat.reduceMul, Nat.le_refl, ite_self, Nat.reduceEqDiff, Nat.reduceLeDiff, Nat.reduceLT, L_0, L_1, L_2, L_3, L_4, L_5, L_6, L_7, L_8, L_9, L_10, L_11, L_12, L_13, L_14, L_15, L_16, L_24, L_31, L_40, L_48, L_49, L_50, L_51, L_60, L_72, L_99, L_127, L_132, L_172, L_412, L_428, L_429, L_430, L_431, L_432, L_433, L_1000, nI_add, nI_mul, nI_leI, nI_ltI, nI_eq, m_cl, mInb_iff, nI_ng, ng_nI, ng_ng, nI_lt_ng, ng_lt_nI, nI_le_ng, ng_le_nI]
      · simp (disch := omega) only [s204_14, s204, RefL.s hR, RefL.r0 hR, RefL.r1 hR, RefL.r2 hR, RefL.r3 hR, RefL.r4 hR, RefL.r5 hR, RefL.r7 hR, RefL.r8 hR, RefL.r9 hR, RefL.r10 hR, RefL.r12 hR, RefL.r13 hR, RefL.r14 hR, RefL.r15 hR, RefL.r16 hR, RefL.r17 hR, RefL.r18 hR, RefL.r19 hR, RefL.a0 hR, RefL.a1 hR, RefL.a2 hR, RefL.a3 hR, RefL.a4 hR, RefL.a5 hR, RefL.a7 hR, RefL.a8 hR, RefL.a9 hR, RefL.a10 hR, RefL.a12 hR, RefL.a13 hR, RefL.a14 hR, RefL.a15 hR, RefL.a16 hR, RefL.a17 hR, RefL.a18 hR, RefL.a19 hR, l2, d2, Option.bind_some, Sum.elim_inl, Sum.elim_inr, reduceIte, if_true, if_false, ite_true, ite_false, not_true_eq_false, not_false_eq_true, or_true, true_or, or_false, false_or, and_true, true_and, and_false, false_and, eq_self, ne_eq, Nat.reduceAdd, Nat.reduceMul, Nat.le_refl, ite_self, Nat.reduceEqDiff, Nat.reduceLeDiff, Nat.reduceLT, L_0, L_1, L_2, L_3, L_4, L_5, L_6, L_7, L_8, L_9, L_10, L_11, L_12, L_13, L_14, L_15, L_16, L_24, L_31, L_40, L_48, L_49, L_50, L_51, L_60, L_72, L_99, L_127, L_132, L_172, L_412, L_428, L_429, L_430, L_431, L_432, L_433, L_1000, nI_add, nI_mul, nI_leI, nI_ltI, nI_eq, m_cl, mInb_iff, nI_ng, ng_nI, ng_ng, nI_lt_ng, ng_lt_nI, nI_le_ng, ng_le_nI]
  · refine ⟨-nI 1, μ, μ, A, ?_, FrC.refl _, hC, hZ, ?_, FrR.refl _, hM, ht, hu⟩
    · simp (disch := omega) only [s113_13, s113, ClsL.s hK, ClsL.p0 hK, ClsL.p1 hK, ClsL.p2 hK, ClsL.p3 hK, ClsL.p4 hK, ClsL.p5 hK, ClsL.s192 hK, ClsL.s199 hK, FabL.s0 hF, FabL.p0 hF, FabL.p1 hF, FabL.s1 hF, FabL.s2 hF, FabL.r hF, FabL.rs hF, FabL.rl hF, FabL.ls hF, FabL.l5 hF, FabL.l6 hF, FabL.l7 hF, FabL.l8 hF, FabL.q2 hF, FabL.q3 hF, FabL.q4 hF, FabL.q5 hF, FabL.tp hF, FabL.ts hF, FabL.td hF, FabL.tw hF, FabL.ws hF, FabL.w4 hF, FabL.w5 hF, FabL.w6 hF, FabL.w7 hF, FabL.w8 hF, FabL.v1 hF, FabL.v2 hF, FabL.v3 hF, FabL.v4 hF, FabL.v5 hF, l1, Option.bind_some, Sum.elim_inl, Sum.elim_inr, reduceIte, if_true, if_false, ite_true, ite_false, not_true_eq_false, not_false_eq_true, or_true, true_or, or_false, false_or, and_true, true_and, and_false, false_and, eq_self, ne_eq, Nat.reduceAdd, Nat.reduceMul, Nat.le_refl, ite_self, Nat.reduceEqDiff, Nat.reduceLeDiff, Nat.reduceLT, L_0, L_1, L_2, L_3, L_4, L_5, L_6, L_7, L_8, L_9, L_10, L_11, L_12, L_13, L_14, L_15, L_16, L_24, L_31, L_40, L_48, L_49, L_50, L_51, L_60, L_72, L_99, L_127, L_132, L_172, L_412, L_428, L_429, L_430, L_431, L_432, L_433, L_1000, nI_add, nI_mul, nI_leI, nI_ltI, nI_eq, m_cl, mInb_iff, nI_ng, ng_nI, ng_ng, nI_lt_ng, ng_lt_nI, nI_le_ng, ng_le_nI]
    · simp (disch := omega) only [s204_14, s204, RefL.s hR, RefL.r0 hR, RefL.r1 hR, RefL.r2 hR, RefL.r3 hR, RefL.r4 hR, RefL.r5 hR, RefL.r7 hR, RefL.r8 hR, RefL.r9 hR, RefL.r10 hR, RefL.r12 hR, RefL.r13 hR, RefL.r14 hR, RefL.r15 hR, RefL.r16 hR, RefL.r17 hR, RefL.r18 hR, RefL.r19 hR, RefL.a0 hR, RefL.a1 hR, RefL.a2 hR, RefL.a3 hR, RefL.a4 hR, RefL.a5 hR, RefL.a7 hR, RefL.a8 hR, RefL.a9 hR, RefL.a10 hR, RefL.a12 hR, RefL.a13 hR, RefL.a14 hR, RefL.a15 hR, RefL.a16 hR, RefL.a17 hR, RefL.a18 hR, RefL.a19 hR, l2, Option.bind_some, Sum.elim_inl, Sum.elim_inr, reduceIte, if_true, if_false, ite_true, ite_false, not_true_eq_false, not_false_eq_true, or_true, true_or, or_false, false_or, and_true, true_and, and_false, false_and, eq_self, ne_eq, Nat.reduceAdd, Nat.reduceMul, Nat.le_refl, ite_self, Nat.reduceEqDiff, Nat.reduceLeDiff, Nat.reduceLT, L_0, L_1, L_2, L_3, L_4, L_5, L_6, L_7, L_8, L_9, L_10, L_11, L_12, L_13, L_14, L_15, L_16, L_24, L_31, L_40, L_48, L_49, L_50, L_51, L_60, L_72, L_99, L_127, L_132, L_172, L_412, L_428, L_429, L_430, L_431, L_432, L_433, L_1000, nI_add, nI_mul, nI_leI, nI_ltI, nI_eq, m_cl, mInb_iff, nI_ng, ng_nI, ng_ng, nI_lt_ng, ng_lt_nI, nI_le_ng, ng_le_nI]
end IO
