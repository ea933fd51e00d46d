/-! unplug -/
section UN
variable {μ μ' : mM} {A A' : Ab} {f r k t d h q v : Nat} {L : Nat} {xs : Nat → Int32} {p : Nat → Bool}
/-- some tunnels closed, in ascending order -/
def shN (p : Nat → Bool) : Nat → Ab → Ab
  | 0, A => A
  | n + 1, A => if p n = true then shutA (shN p n A) n else shN p n A
theorem shN_eq : ∀ n, (shN p n A).1 = A.1 ∧ (shN p n A).2.2.2.2 = A.2.2.2.2 ∧ (∀ a k, aT (shN p n A) a k = if k = 0 ∧ a < n ∧ p a = true then 0 else aT A a k) ∧ (∀ a b c e, aW (shN p n A) a b c e = if a < n ∧ p a = true then 0 else aW A a b c e) ∧ ∀ k, ¬ k = 2 → aC (shN p n A) k = aC A k
  | 0 => ⟨rfl, rfl, fun a k => by rw [if_neg (by omega)]; rfl, fun a b c e => by rw [if_neg (by omega)]; rfl, fun _ _ => rfl⟩
  | n + 1 => by
    obtain ⟨h1, h2, h3, h4, h5⟩ := shN_eq n
    unfold shN
    by_cases e : p n = true
    · rw [if_pos e]
      obtain ⟨g1, g2, g3, g4⟩ := shutA_eq (A := shN p n A) (t := n)
      refine ⟨g1.trans h1, g2.trans h2, fun a k => ?_, fun a b c x => ?_, fun k hk => ?_⟩
      · rw [g3, h3]
        by_cases z : a = n
        · subst z
          by_cases z2 : k = 0
          · rw [if_pos ⟨rfl, z2⟩, if_pos ⟨z2, by omega, e⟩]
          · rw [if_neg (fun y => z2 y.2), if_neg (fun y => z2 y.1), if_neg (fun y => z2 y.1)]
        · rw [if_neg (fun y => z y.1)]
          by_cases z2 : k = 0 ∧ a < n ∧ p a = true
          · rw [if_pos z2, if_pos ⟨z2.1, by omega, z2.2.2⟩]
          · rw [if_neg z2, if_neg (fun y => z2 ⟨y.1, by omega, y.2.2⟩)]
      · rw [g4, h4]
        by_cases z : a = n
        · subst z; rw [if_pos rfl, if_pos ⟨by omega, e⟩]
        · rw [if_neg z]
          by_cases z2 : a < n ∧ p a = true
          · rw [if_pos z2, if_pos ⟨by omega, z2.2⟩]
          · rw [if_neg z2, if_neg (fun y => z2 ⟨by omega, y.2⟩)]
      · show aC (setC _ 2 _) k = _
        rw [aC_setC, if_neg hk]; exact h5 k hk
    · rw [if_neg e]
      refine ⟨h1, h2, fun a k => ?_, fun a b c x => ?_, h5⟩
      · rw [h3]
        by_cases z2 : k = 0 ∧ a < n ∧ p a = true
        · rw [if_pos z2, if_pos ⟨z2.1, by omega, z2.2.2⟩]
        · rw [if_neg z2, if_neg (fun ⟨y1, y2, y3⟩ => by
            by_cases z : a = n
            · subst z; exact e y3
            · exact z2 ⟨y1, by omega, y3⟩)]
      · rw [h4]
        by_cases z2 : a < n ∧ p a = true
        · rw [if_pos z2, if_pos ⟨by omega, z2.2⟩]
        · rw [if_neg z2, if_neg (fun ⟨y2, y3⟩ => by
            by_cases z : a = n
            · subst z; exact e y3
            · exact z2 ⟨by omega, y3⟩)]
theorem shN_wft (ht : WFt A) (n : Nat) : WFt (shN p n A) := ht.cg (shN_eq n).1 (shN_eq n).2.1
theorem shN_wfu (hu : WFu A) : ∀ n, WFu (shN p n A)
  | 0 => hu
  | n + 1 => by
    unfold shN
    split
    · exact wfu_shut (shN_wfu hu n)
    · exact shN_wfu hu n
theorem shN_self (n k : Nat) : aT (shN p n A) n k = aT A n k := by rw [(shN_eq n).2.2.1, if_neg (by omega)]
theorem shN_lost (n : Nat) : lostN (shN p n A) n = lostN A n := by
  unfold lostN celN
  simp only [(shN_eq (p := p) (A := A) n).2.2.2.1, Nat.lt_irrefl, false_and, if_false]
theorem lostN_le (hu : WFu A) (htt : t < 10) (ho : aT A t 0 = 1) : lostN A t ≤ 246 := by
  obtain ⟨-, -, -, -, -, -, -, -, o9, -⟩ := hu.o htt ho
  have hc : ∀ d, d < 2 → celN A t d ≤ 24 := fun d hd => by
    have := sumN_le (g := fun h => aW A t d h 2) (h := fun _ => 6) (n := 4) (fun i hi => by
      have := (o9 d hd).2 i hi
      show aW A t d i 2 ≤ 6
      omega)
    rw [sumN_const] at this
    exact this
  have h0 := hc 0 (by omega)
  have h1 := hc 1 (by omega)
  have q0 := (o9 0 (by omega)).1
  have q1 := (o9 1 (by omega)).1
  show 0 + (aW A t 0 4 0 + celN A t 0) + (aW A t 1 4 0 + celN A t 1) ≤ 246
  omega
/-- some routers taken away -/
def deN (p : Nat → Bool) : Nat → Ab → Ab
  | 0, A => A
  | n + 1, A => if p n = true then setR (deN p n A) n 0 0 else deN p n A
theorem deN_eq : ∀ n, (deN p n A).2 = A.2 ∧ ∀ a k, aR (deN p n A) a k = if k = 0 ∧ a < n ∧ p a = true then 0 else aR A a k
  | 0 => ⟨rfl, fun a k => by rw [if_neg (by omega)]; rfl⟩
  | n + 1 => by
    obtain ⟨h1, h3⟩ := deN_eq n
    unfold deN
    by_cases e : p n = true
    · rw [if_pos e]
      refine ⟨h1, fun a k => ?_⟩
      rw [aR_setR, h3]
      by_cases z : a = n
      · subst z
        by_cases z2 : k = 0
        · rw [if_pos ⟨rfl, z2⟩, if_pos ⟨z2, by omega, e⟩]
        · rw [if_neg (fun y => z2 y.2), if_neg (fun y => z2 y.1), if_neg (fun y => z2 y.1)]
      · rw [if_neg (fun y => z y.1)]
        by_cases z2 : k = 0 ∧ a < n ∧ p a = true
        · rw [if_pos z2, if_pos ⟨z2.1, by omega, z2.2.2⟩]
        · rw [if_neg z2, if_neg (fun y => z2 ⟨y.1, by omega, y.2.2⟩)]
    · rw [if_neg e]
      refine ⟨h1, fun a k => ?_⟩
      rw [h3]
      by_cases z2 : k = 0 ∧ a < n ∧ p a = true
      · rw [if_pos z2, if_pos ⟨z2.1, by omega, z2.2.2⟩]
      · rw [if_neg z2, if_neg (fun ⟨y1, y2, y3⟩ => by
          by_cases z : a = n
          · subst z; exact e y3
          · exact z2 ⟨y1, by omega, y3⟩)]
theorem deN_k (n a k : Nat) (hk : ¬ k = 0) : aR (deN p n A) a k = aR A a k := by rw [(deN_eq n).2, if_neg (fun y => hk y.1)]
theorem CS.det (hC : CS μ f A) (hr : r < 8) : CS (mUI μ (ro f r) 0 (nI 0)) f (setR A r 0 0) := by
  obtain ⟨hF, h1, h2, h3, h4, h5, h6, h7, h8⟩ := hC
  have p3 : ∀ a, aR (setR A r 0 0) a 3 = aR A a 3 := fun a => by rw [aR_setR, if_neg (by omega)]
  have pk : ∀ a k, ¬ k = 0 → aR (setR A r 0 0) a k = aR A a k := fun a k hk => by rw [aR_setR, if_neg (fun y => hk y.2)]
  have pn : ∀ a, aR (setR A r 0 0) a 0 = 1 → ¬ a = r ∧ aR A a 0 = 1 := fun a z => by
    rw [aR_setR] at z
    by_cases y : a = r
    · rw [if_pos ⟨y, rfl⟩] at z; omega
    · rw [if_neg (fun w => y w.1)] at z; exact ⟨y, z⟩
  have gn : ∀ a d, wN (setR A r 0 0) a d = wN A a d := fun a d => wN_cg p3 rfl rfl
  refine ⟨hF, ?_, fun a ha => ?_, fun a ha hp => ?_, fun a a1 ha hp => ?_, fun a ha => ?_, fun a ha ho => ?_, fun a b ha ho hb => ?_, fun a b c ha ho hb hc => ?_⟩
  · rw [mI_UIr (by (simp only [ro]) <;> omega)]; exact h1
  · rw [mI_UI, aR_setR]
    by_cases y : a = r
    · rw [if_pos ⟨by rw [y], rfl⟩, if_pos ⟨y, rfl⟩]
    · rw [if_neg (fun z => y (by have := z.1; unfold ro at this; omega)), if_neg (fun z => y z.1)]; exact h2 a ha
  · obtain ⟨y, hp'⟩ := pn a hp
    rw [mI_UIr (q := ro f a) (by (simp only [ro]) <;> omega), pk a 1 (by omega), pk a 2 (by omega), pk a 3 (by omega), pk a 4 (by omega), dep_cg p3]
    exact h3 a ha hp'
  · obtain ⟨y, hp'⟩ := pn a hp
    rw [mI_UIr (q := ro f a + 1) (by (simp only [ro]) <;> omega), mI_UIr (q := ro f a + 2) (by (simp only [ro]) <;> omega), mI_UIr (q := ro f a + 3) (by (simp only [ro]) <;> omega), lgen_cg p3 (fun a => pk a 2 (by omega)), pk a 5 (by omega), pk a 6 (by omega), pk a 7 (by omega), pk a 8 (by omega)]
    obtain ⟨z1, z2⟩ := h4 a a1 ha hp'
    refine ⟨z1, fun d hd => ?_⟩
    rw [poolK_cg p3 (fun a => pk a 1 (by omega)), pk a (9 + d) (by omega)]
    exact z2 d hd
  · rw [mI_UIr (by (simp only [ro, tu]) <;> omega)]; exact h5 a ha
  · rw [mI_UIr (by (simp only [ro, tu]) <;> omega)]; exact h6 a ha ho
  · rw [mI_UIr (by (simp only [ro, wy]) <;> omega), gn]; exact h7 a b ha ho hb
  · rw [gn] at hc
    rw [mI_UIr (q := wy f a b + 1) (by (simp only [ro, wy]) <;> omega), mI_UIr (q := wy f a b + 2) (by (simp only [ro, wy]) <;> omega), mI_UIr (q := wy f a b + 3) (by (simp only [ro, wy]) <;> omega), mI_UIr (q := wy f a b + 4) (by (simp only [ro, wy]) <;> omega), wP_cg p3 rfl]
    exact h8 a b c ha ho hb hc
/-- isWithin, where only the parents are known -/
theorem j27g (hF : FabL (mS μ) (mP μ) f) (h3 : ∀ a, a < 8 → aR A a 0 = 1 → mI μ (ro f a) 3 = nI (aR A a 3)) (ht : WFt A) (hr : r < 8) (hp : aR A r 0 = 1) (hq : q < 8) (hq1 : 1 ≤ q) : s27 μ f (nI r) (nI q) = some (bI (onb A q r)) := by
  have h4 := ht.dep4 hr hp
  have key : ∃ o, mLoop (s27L4 μ f (nI q)) 1000 (nI r, nI 0) = some o ∧ ∃ x, x < 8 ∧ o = .inl (nI x) ∧ (x = q ↔ onb A q r = true) := by
    refine mLoop_inv0 (b := s27L4 μ f (nI q)) (fun i s => s = (nI (anc A r i), nI i) ∧ ∀ j, j < i → ¬ anc A r j = q) (dep A r) (fun o => ∃ x, x < 8 ∧ o = .inl (nI x) ∧ (x = q ↔ onb A q r = true)) (fun i s hi hI => ?_) (fun s hI => ?_) ⟨rfl, fun j hj => by omega⟩ (by omega)
    · obtain ⟨h1, h2⟩ := hI
      subst h1
      obtain ⟨a1, a2, a3⟩ := ht.an hr hp i
      have h0 : ¬ anc A r i = 0 := fun z => by have := (ht.anc0 hr hp i).mp z; omega
      by_cases e : anc A r i = q
      · right
        refine ⟨_, ?_, anc A r i, a1, rfl, ?_⟩
        · simp (disch := omega) only [s27L4, s27_25, s27_19, s27, Option.bind_some, Sum.elim_inl, Sum.elim_inr, reduceIte, if_true, if_false, ite_true, ite_false, not_true_eq_false, not_false_eq_true, or_true, true_or, or_false, false_or, and_true, true_and, and_false, false_and, eq_self, ne_eq, Nat.reduceAdd, Nat.reduceMul, Nat.le_refl, ite_self, Nat.reduceEqDiff, Nat.reduceLeDiff, Nat.reduceLT, L_0, L_1, L_2, L_3, L_4, L_5, L_6, L_7, L_8, L_9, L_10, L_11, L_12, L_13, L_14, L_15, L_16, L_24, L_31, L_40, L_48, L_49, L_50, L_51, L_60, L_72, L_99, L_127, L_132, L_172, L_412, L_428, L_429, L_430, L_431, L_432, L_433, L_1000, nI_add, nI_mul, nI_leI, nI_ltI, nI_eq, m_cl, mInb_iff, nI_ng, ng_nI, ng_ng, nI_lt_ng, ng_lt_nI, nI_le_ng, ng_le_nI, show ¬ 4 ≤ i by omega, show ¬ anc A r i = 0 by omega, e]
        · exact ⟨fun _ => onb_iff.mpr ⟨by omega, i, hi, e⟩, fun _ => e⟩
      · left
        have h3i := h3 _ a1 a2
        refine ⟨(nI (anc A r (i + 1)), nI (i + 1)), ?_, rfl, fun j hj => ?_⟩
        · simp (disch := omega) only [s27L4, s27_25, s27_19, s27, FabL.s0 hF, FabL.p0 hF, FabL.p1 hF, FabL.s1 hF, FabL.s2 hF, FabL.r hF, FabL.rs hF, FabL.rl hF, FabL.ls hF, FabL.l5 hF, FabL.l6 hF, FabL.l7 hF, FabL.l8 hF, FabL.q2 hF, FabL.q3 hF, FabL.q4 hF, FabL.q5 hF, FabL.tp hF, FabL.ts hF, FabL.td hF, FabL.tw hF, FabL.ws hF, FabL.w4 hF, FabL.w5 hF, FabL.w6 hF, FabL.w7 hF, FabL.w8 hF, FabL.v1 hF, FabL.v2 hF, FabL.v3 hF, FabL.v4 hF, FabL.v5 hF, j18 hF, h3i, Option.bind_some, Sum.elim_inl, Sum.elim_inr, reduceIte, if_true, if_false, ite_true, ite_false, not_true_eq_false, not_false_eq_true, or_true, true_or, or_false, false_or, and_true, true_and, and_false, false_and, eq_self, ne_eq, Nat.reduceAdd, Nat.reduceMul, Nat.le_refl, ite_self, Nat.reduceEqDiff, Nat.reduceLeDiff, Nat.reduceLT, L_0, L_1, L_2, L_3, L_4, L_5, L_6, L_7, L_8, L_9, L_10, L_11, L_12, L_13, L_14, L_15, L_16, L_24, L_31, L_40, L_48, L_49, L_50, L_51, L_60, L_72, L_99, L_127, L_132, L_172, L_412, L_428, L_429, L_430, L_431, L_432, L_433, L_1000, nI_add, nI_mul, nI_leI, nI_ltI, nI_eq, m_cl, mInb_iff, nI_ng, ng_nI, ng_ng, nI_lt_ng, ng_lt_nI, nI_le_ng, ng_le_nI, show ¬ 4 ≤ i by omega, h0, e]
          rfl
        · by_cases hji : j = i
          · subst hji; exact e
          · exact h2 j (by omega)
    · obtain ⟨h1, h2⟩ := hI
      subst h1
      have h0 := (ht.anc0 hr hp (dep A r)).mpr (Nat.le_refl _)
      refine ⟨_, ?_, 0, by omega, rfl, ?_⟩
      · by_cases h5 : 4 ≤ dep A r
        · simp (disch := omega) only [s27L4, s27_25, s27_19, s27, Option.bind_some, Sum.elim_inl, Sum.elim_inr, reduceIte, if_true, if_false, ite_true, ite_false, not_true_eq_false, not_false_eq_true, or_true, true_or, or_false, false_or, and_true, true_and, and_false, false_and, eq_self, ne_eq, Nat.reduceAdd, Nat.reduceMul, Nat.le_refl, ite_self, Nat.reduceEqDiff, Nat.reduceLeDiff, Nat.reduceLT, L_0, L_1, L_2, L_3, L_4, L_5, L_6, L_7, L_8, L_9, L_10, L_11, L_12, L_13, L_14, L_15, L_16, L_24, L_31, L_40, L_48, L_49, L_50, L_51, L_60, L_72, L_99, L_127, L_132, L_172, L_412, L_428, L_429, L_430, L_431, L_432, L_433, L_1000, nI_add, nI_mul, nI_leI, nI_ltI, nI_eq, m_cl, mInb_iff, nI_ng, ng_nI, ng_ng, nI_lt_ng, ng_lt_nI, nI_le_ng, ng_le_nI, h0, h5]
        · simp (disch := omega) only [s27L4, s27_25, s27_19, s27, Option.bind_some, Sum.elim_inl, Sum.elim_inr, reduceIte, if_true, if_false, ite_true, ite_false, not_true_eq_false, not_false_eq_true, or_true, true_or, or_false, false_or, and_true, true_and, and_false, false_and, eq_self, ne_eq, Nat.reduceAdd, Nat.reduceMul, Nat.le_refl, ite_self, Nat.reduceEqDiff, Nat.reduceLeDiff, Nat.reduceLT, L_0, L_1, L_2, L_3, L_4, L_5, L_6, L_7, L_8, L_9, L_10, L_11, L_12, L_13, L_14, L_15, L_16, L_24, L_31, L_40, L_48, L_49, L_50, L_51, L_60, L_72, L_99, L_127, L_132, L_172, L_412, L_428, L_429, L_430, L_431, L_432, L_433, L_1000, nI_add, nI_mul, nI_leI, nI_ltI, nI_eq, m_cl, mInb_iff, nI_ng, ng_nI, ng_ng, nI_lt_ng, ng_lt_nI, nI_le_ng, ng_le_nI, h0, h5]
      · refine ⟨fun z => by omega, fun z => ?_⟩
        obtain ⟨z1, k, z2, z3⟩ := onb_iff.mp z
        exact absurd z3 (h2 k z2)
  obtain ⟨o, e, x, hx, rfl, h3⟩ := key
  simp (disch := omega) only [s27_25, s27_19, s27, Option.bind_some, Sum.elim_inl, Sum.elim_inr, reduceIte, if_true, if_false, ite_true, ite_false, not_true_eq_false, not_false_eq_true, or_true, true_or, or_false, false_or, and_true, true_and, and_false, false_and, eq_self, ne_eq, Nat.reduceAdd, Nat.reduceMul, Nat.le_refl, ite_self, Nat.reduceEqDiff, Nat.reduceLeDiff, Nat.reduceLT, L_0, L_1, L_2, L_3, L_4, L_5, L_6, L_7, L_8, L_9, L_10, L_11, L_12, L_13, L_14, L_15, L_16, L_24, L_31, L_40, L_48, L_49, L_50, L_51, L_60, L_72, L_99, L_127, L_132, L_172, L_412, L_428, L_429, L_430, L_431, L_432, L_433, L_1000, nI_add, nI_mul, nI_leI, nI_ltI, nI_eq, m_cl, mInb_iff, nI_ng, ng_nI, ng_ng, nI_lt_ng, ng_lt_nI, nI_le_ng, ng_le_nI, e]
  by_cases e2 : x = q
  · rw [if_neg (fun z => z e2), h3.mp e2]; rfl
  · have h7 : onb A q r = false := by cases h : onb A q r <;> simp_all
    rw [if_pos e2, h7]; rfl
def pD (A : Ab) (r a : Nat) : Bool := (aR A a 0 == 1) && onb A r a
theorem pD_iff {a : Nat} : pD A r a = true ↔ aR A a 0 = 1 ∧ onb A r a = true := by unfold pD; simp only [Bool.and_eq_true, beq_iff_eq]
theorem pD_0 : pD A r 0 = false := by unfold pD; rw [onb_0, Bool.and_false]
theorem pD_sum (ht : WFt A) (h1 : 1 ≤ r) (hr : r < 8) (hp : aR A r 0 = 1) : sumN (fun a => if pD A r a = true then 1 else 0) 8 = belN A r + 1 := by
  rw [← belN_1 ht hr hp]
  refine sumN_congr (fun a ha => ?_)
  simp only [pD_iff, show ¬ r = 0 by omega, false_or]
theorem j26 (hC : CS μ f A) (ht : WFt A) (h1 : 1 ≤ r) (hr : r < 8) (hp : aR A r 0 = 1) : ∃ μ', s26 μ f (nI r) = some (nI (belN A r + 1), μ') ∧ CS μ' f (deN (pD A r) 8 A) ∧ FrF f μ μ' := by
  obtain ⟨o, e, μ', rfl, g1, g2⟩ := mLoop_inv0 (b := s26L4 f (nI r)) (fun i s => s.1 = nI (sumN (fun a => if pD A r a = true then 1 else 0) (1 + i)) ∧ s.2.1 = nI (1 + i) ∧ CS s.2.2 f (deN (pD A r) (1 + i) A) ∧ FrF f μ s.2.2 ∧ ∀ a, mI s.2.2 (ro f a) 3 = mI μ (ro f a) 3) 7 (fun o => ∃ μ', o = .inl (nI (sumN (fun a => if pD A r a = true then 1 else 0) 8), μ') ∧ CS μ' f (deN (pD A r) 8 A) ∧ FrF f μ μ') (fun i s hi hI => by
    obtain ⟨x, y, ν⟩ := s
    obtain ⟨i1, i2, i3, i4, i5⟩ := hI
    simp only at i1 i2 i3 i4 i5
    subst i1 i2
    have hF := i3.1
    have hle := ht.le1 (r := 1 + i) (by omega)
    have z0 : aR (deN (pD A r) (1 + i) A) (1 + i) 0 = aR A (1 + i) 0 := by rw [(deN_eq _).2, if_neg (by omega)]
    have rp0 := RepC.r0 i3.2 (r := 1 + i) (by omega)
    rw [z0] at rp0
    have e2 : sumN (fun a => if pD A r a = true then 1 else 0) (1 + (i + 1)) = sumN (fun a => if pD A r a = true then 1 else 0) (1 + i) + (if pD A r (1 + i) = true then 1 else 0) := by
      rw [show 1 + (i + 1) = (1 + i) + 1 by omega]; rfl
    have e3 : deN (pD A r) (1 + (i + 1)) A = if pD A r (1 + i) = true then setR (deN (pD A r) (1 + i) A) (1 + i) 0 0 else deN (pD A r) (1 + i) A := by
      rw [show 1 + (i + 1) = (1 + i) + 1 by omega]; rfl
    left
    by_cases e1 : aR A (1 + i) 0 = 1
    · have w := j27g (μ := ν) (A := A) (r := 1 + i) (q := r) hF (fun a ha hap => by rw [i5 a]; exact RepC.r3 hC.2 ha hap) ht (by omega) e1 hr h1
      by_cases e4 : onb A r (1 + i) = true
      · have hpd : pD A r (1 + i) = true := pD_iff.mpr ⟨e1, e4⟩
        rw [e4] at w
        refine ⟨(nI (sumN (fun a => if pD A r a = true then 1 else 0) (1 + i) + 1), nI (1 + (i + 1)), mUI ν (ro f (1 + i)) 0 (nI 0)), ?_, by rw [e2, if_pos hpd], rfl, ?_, i4.trans (FrF_ro (j := 0) (by omega) (by omega) (Or.inl (by omega))), fun a => ?_⟩
        · simp (disch := omega) only [s26L4_25, s26L4, s26, FabL.s0 hF, FabL.p0 hF, FabL.p1 hF, FabL.s1 hF, FabL.s2 hF, FabL.r hF, FabL.rs hF, FabL.rl hF, FabL.ls hF, FabL.l5 hF, FabL.l6 hF, FabL.l7 hF, FabL.l8 hF, FabL.q2 hF, FabL.q3 hF, FabL.q4 hF, FabL.q5 hF, FabL.tp hF, FabL.ts hF, FabL.td hF, FabL.tw hF, FabL.ws hF, FabL.w4 hF, FabL.w5 hF, FabL.w6 hF, FabL.w7 hF, FabL.w8 hF, FabL.v1 hF, FabL.v2 hF, FabL.v3 hF, FabL.v4 hF, FabL.v5 hF, rp0, e1, w, bI_t, Option.bind_some, Sum.elim_inl, Sum.elim_inr, reduceIte, if_true, if_false, ite_true, ite_false, not_true_eq_false, not_false_eq_true, or_true, true_or, or_false, false_or, and_true, true_and, and_false, false_and, eq_self, ne_eq, Nat.reduceAdd, Nat.reduceMul, Nat.le_refl, ite_self, Nat.reduceEqDiff, Nat.reduceLeDiff, Nat.reduceLT, L_0, L_1, L_2, L_3, L_4, L_5, L_6, L_7, L_8, L_9, L_10, L_11, L_12, L_13, L_14, L_15, L_16, L_24, L_31, L_40, L_48, L_49, L_50, L_51, L_60, L_72, L_99, L_127, L_132, L_172, L_412, L_428, L_429, L_430, L_431, L_432, L_433, L_1000, nI_add, nI_mul, nI_leI, nI_ltI, nI_eq, m_cl, mInb_iff, nI_ng, ng_nI, ng_ng, nI_lt_ng, ng_lt_nI, nI_le_ng, ng_le_nI, show ¬ 8 ≤ 1 + i by omega, show 1 + i < 8 by omega, Nat.add_assoc]
        · rw [e3, if_pos hpd]; exact CS.det i3 (by omega)
        · show mI (mUI ν (ro f (1 + i)) 0 (nI 0)) (ro f a) 3 = _
          rw [mI_UI, if_neg (by omega)]; exact i5 a
      · have e4' : onb A r (1 + i) = false := by simpa using e4
        have hpd : ¬ pD A r (1 + i) = true := fun z => e4 (pD_iff.mp z).2
        rw [e4'] at w
        refine ⟨(nI (sumN (fun a => if pD A r a = true then 1 else 0) (1 + i)), nI (1 + (i + 1)), ν), ?_, by rw [e2, if_neg hpd]; rfl, rfl, by rw [e3, if_neg hpd]; exact i3, i4, i5⟩
        simp (disch := omega) only [s26L4_25, s26L4, s26, FabL.s0 hF, FabL.p0 hF, FabL.p1 hF, FabL.s1 hF, FabL.s2 hF, FabL.r hF, FabL.rs hF, FabL.rl hF, FabL.ls hF, FabL.l5 hF, FabL.l6 hF, FabL.l7 hF, FabL.l8 hF, FabL.q2 hF, FabL.q3 hF, FabL.q4 hF, FabL.q5 hF, FabL.tp hF, FabL.ts hF, FabL.td hF, FabL.tw hF, FabL.ws hF, FabL.w4 hF, FabL.w5 hF, FabL.w6 hF, FabL.w7 hF, FabL.w8 hF, FabL.v1 hF, FabL.v2 hF, FabL.v3 hF, FabL.v4 hF, FabL.v5 hF, rp0, e1, w, bI_f, Option.bind_some, Sum.elim_inl, Sum.elim_inr, reduceIte, if_true, if_false, ite_true, ite_false, not_true_eq_false, not_false_eq_true, or_true, true_or, or_false, false_or, and_true, true_and, and_false, false_and, eq_self, ne_eq, Nat.reduceAdd, Nat.reduceMul, Nat.le_refl, ite_self, Nat.reduceEqDiff, Nat.reduceLeDiff, Nat.reduceLT, L_0, L_1, L_2, L_3, L_4, L_5, L_6, L_7, L_8, L_9, L_10, L_11, L_12, L_13, L_14, L_15, L_16, L_24, L_31, L_40, L_48, L_49, L_50, L_51, L_60, L_72, L_99, L_127, L_132, L_172, L_412, L_428, L_429, L_430, L_431, L_432, L_433, L_1000, nI_add, nI_mul, nI_leI, nI_ltI, nI_eq, m_cl, mInb_iff, nI_ng, ng_nI, ng_ng, nI_lt_ng, ng_lt_nI, nI_le_ng, ng_le_nI, show ¬ 8 ≤ 1 + i by omega, show 1 + i < 8 by omega, Nat.add_assoc]
    · have e0 : aR A (1 + i) 0 = 0 := by omega
      have hpd : ¬ pD A r (1 + i) = true := fun z => e1 (pD_iff.mp z).1
      refine ⟨(nI (sumN (fun a => if pD A r a = true then 1 else 0) (1 + i)), nI (1 + (i + 1)), ν), ?_, by rw [e2, if_neg hpd]; rfl, rfl, by rw [e3, if_neg hpd]; exact i3, i4, i5⟩
      simp (disch := omega) only [s26L4_25, s26L4, s26, FabL.s0 hF, FabL.p0 hF, FabL.p1 hF, FabL.s1 hF, FabL.s2 hF, FabL.r hF, FabL.rs hF, FabL.rl hF, FabL.ls hF, FabL.l5 hF, FabL.l6 hF, FabL.l7 hF, FabL.l8 hF, FabL.q2 hF, FabL.q3 hF, FabL.q4 hF, FabL.q5 hF, FabL.tp hF, FabL.ts hF, FabL.td hF, FabL.tw hF, FabL.ws hF, FabL.w4 hF, FabL.w5 hF, FabL.w6 hF, FabL.w7 hF, FabL.w8 hF, FabL.v1 hF, FabL.v2 hF, FabL.v3 hF, FabL.v4 hF, FabL.v5 hF, rp0, e0, Option.bind_some, Sum.elim_inl, Sum.elim_inr, reduceIte, if_true, if_false, ite_true, ite_false, not_true_eq_false, not_false_eq_true, or_true, true_or, or_false, false_or, and_true, true_and, and_false, false_and, eq_self, ne_eq, Nat.reduceAdd, Nat.reduceMul, Nat.le_refl, ite_self, Nat.reduceEqDiff, Nat.reduceLeDiff, Nat.reduceLT, L_0, L_1, L_2, L_3, L_4, L_5, L_6, L_7, L_8, L_9, L_10, L_11, L_12, L_13, L_14, L_15, L_16, L_24, L_31, L_40, L_48, L_49, L_50, L_51, L_60, L_72, L_99, L_127, L_132, L_172, L_412, L_428, L_429, L_430, L_431, L_432, L_433, L_1000, nI_add, nI_mul, nI_leI, nI_ltI, nI_eq, m_cl, mInb_iff, nI_ng, ng_nI, ng_ng, nI_lt_ng, ng_lt_nI, nI_le_ng, ng_le_nI, show ¬ 8 ≤ 1 + i by omega, show 1 + i < 8 by omega, Nat.add_assoc]) (fun s hI => by
    obtain ⟨x, y, ν⟩ := s
    obtain ⟨i1, i2, i3, i4, i5⟩ := hI
    simp only at i1 i2 i3 i4 i5
    subst i1 i2
    refine ⟨_, ?_, ν, rfl, i3, i4⟩
    simp (disch := omega) only [s26L4_25, s26L4, s26, Option.bind_some, Sum.elim_inl, Sum.elim_inr, reduceIte, if_true, if_false, ite_true, ite_false, not_true_eq_false, not_false_eq_true, or_true, true_or, or_false, false_or, and_true, true_and, and_false, false_and, eq_self, ne_eq, Nat.reduceAdd, Nat.reduceMul, Nat.le_refl, ite_self, Nat.reduceEqDiff, Nat.reduceLeDiff, Nat.reduceLT, L_0, L_1, L_2, L_3, L_4, L_5, L_6, L_7, L_8, L_9, L_10, L_11, L_12, L_13, L_14, L_15, L_16, L_24, L_31, L_40, L_48, L_49, L_50, L_51, L_60, L_72, L_99, L_127, L_132, L_172, L_412, L_428, L_429, L_430, L_431, L_432, L_433, L_1000, nI_add, nI_mul, nI_leI, nI_ltI, nI_eq, m_cl, mInb_iff, nI_ng, ng_nI, ng_ng, nI_lt_ng, ng_lt_nI, nI_le_ng, ng_le_nI]) (s := (nI 0, nI 1, μ)) ⟨by show nI 0 = nI (0 + if pD A r 0 = true then 1 else 0); rw [pD_0]; rfl, rfl, by
      show CS μ f (if pD A r 0 = true then _ else A)
      rw [pD_0]; exact hC, FrF.refl _ _, fun _ => rfl⟩ (n := 1000) (by omega)
  refine ⟨μ', ?_, g1, g2⟩
  rw [pD_sum ht h1 hr hp] at e
  simp (disch := omega) only [s26, Option.bind_some, Sum.elim_inl, Sum.elim_inr, reduceIte, if_true, if_false, ite_true, ite_false, not_true_eq_false, not_false_eq_true, or_true, true_or, or_false, false_or, and_true, true_and, and_false, false_and, eq_self, ne_eq, Nat.reduceAdd, Nat.reduceMul, Nat.le_refl, ite_self, Nat.reduceEqDiff, Nat.reduceLeDiff, Nat.reduceLT, L_0, L_1, L_2, L_3, L_4, L_5, L_6, L_7, L_8, L_9, L_10, L_11, L_12, L_13, L_14, L_15, L_16, L_24, L_31, L_40, L_48, L_49, L_50, L_51, L_60, L_72, L_99, L_127, L_132, L_172, L_412, L_428, L_429, L_430, L_431, L_432, L_433, L_1000, nI_add, nI_mul, nI_leI, nI_ltI, nI_eq, m_cl, mInb_iff, nI_ng, ng_nI, ng_ng, nI_lt_ng, ng_lt_nI, nI_le_ng, ng_le_nI, e]
theorem anc_succ : ∀ k, anc A r (k + 1) = anc A (aR A r 3) k
  | 0 => rfl
  | k + 1 => by show aR A (anc A r (k + 1)) 3 = aR A (anc A (aR A r 3) k) 3; rw [anc_succ k]
theorem onb_par (ht : WFt A) (h1 : 1 ≤ t) (hr : t < 8) (hp : aR A t 0 = 1) (h : onb A r (aR A t 3) = true) : onb A r t = true := by
  obtain ⟨z1, k, z2, z3⟩ := onb_iff.mp h
  obtain ⟨-, -, -, w4, w5, w6, -⟩ := ht.w h1 hr hp
  exact onb_iff.mpr ⟨z1, k + 1, by omega, by rw [anc_succ]; exact z3⟩
theorem wft_de (ht : WFt A) (h1 : 1 ≤ r) : WFt (deN (pD A r) 8 A) := by
  obtain ⟨e2, e1⟩ := deN_eq (p := pD A r) (A := A) 8
  have pk : ∀ a k, ¬ k = 0 → aR (deN (pD A r) 8 A) a k = aR A a k := fun a k hk => deN_k 8 a k hk
  have p3 : ∀ a, aR (deN (pD A r) 8 A) a 3 = aR A a 3 := fun a => pk a 3 (by omega)
  have pn : ∀ a, a < 8 → aR (deN (pD A r) 8 A) a 0 = 1 → aR A a 0 = 1 ∧ ¬ onb A r a = true := fun a ha z => by
    rw [e1] at z
    by_cases y : pD A r a = true
    · rw [if_pos ⟨rfl, ha, y⟩] at z; omega
    · rw [if_neg (fun w => y w.2.2)] at z
      exact ⟨z, fun w => y (pD_iff.mpr ⟨z, w⟩)⟩
  have eL : ∀ a d, aL (deN (pD A r) 8 A) a d = aL A a d := fun a d => by show (deN (pD A r) 8 A).2.2.2.2 a d = _; rw [e2]
  have pp : ∀ a, a < 8 → aR A a 0 = 1 → ¬ onb A r a = true → aR (deN (pD A r) 8 A) a 0 = 1 := fun a ha z y => by
    rw [e1, if_neg (fun w => y (pD_iff.mp w.2.2).2)]; exact z
  refine ⟨⟨pp 0 (by omega) ht.p0 (by rw [onb_0]; simp), ?_⟩, fun a ha => ?_, fun a a1 ha hp => ?_, fun a b a1 a2 b1 b2 ha hb => ?_⟩
  · simp only [pk 0 1 (by omega), pk 0 2 (by omega), pk 0 3 (by omega), pk 0 4 (by omega)]; exact ht.1.2
  · rw [e1]; split
    · omega
    · exact ht.le1 ha
  · obtain ⟨hpa, hna⟩ := pn a ha hp
    obtain ⟨w1, w2, w3, w4, w5, w6, w7, w8, w9⟩ := ht.w a1 ha hpa
    unfold WFr
    simp only [pk _ 1 (show ¬ (1 : Nat) = 0 by omega), pk _ 2 (show ¬ (2 : Nat) = 0 by omega), p3, pk _ 4 (show ¬ (4 : Nat) = 0 by omega), pk _ 5 (show ¬ (5 : Nat) = 0 by omega), pk _ 6 (show ¬ (6 : Nat) = 0 by omega), pk _ 8 (show ¬ (8 : Nat) = 0 by omega), pk _ 9 (show ¬ (9 : Nat) = 0 by omega), pk _ 10 (show ¬ (10 : Nat) = 0 by omega), dep_cg p3, eL]
    exact ⟨w1, w2, w3, w4, pp _ w4 w5 (fun z => hna (onb_par ht a1 ha hpa z)), w6, w7, w8, w9⟩
  · rw [p3, p3, pk a 4 (by omega), pk b 4 (by omega)]
    exact ht.2.2.2 a b a1 a2 b1 b2 (pn a a2 ha).1 (pn b b2 hb).1
theorem wfu_de (hu : WFu A) (hno : ∀ a, a < 10 → aT A a 0 = 1 → onb A r (aT A a 2) = false) : WFu (deN (pD A r) 8 A) := by
  obtain ⟨e2, e1⟩ := deN_eq (p := pD A r) (A := A) 8
  have pk : ∀ a k, ¬ k = 0 → aR (deN (pD A r) 8 A) a k = aR A a k := fun a k hk => deN_k 8 a k hk
  have p3 : ∀ a, aR (deN (pD A r) 8 A) a 3 = aR A a 3 := fun a => pk a 3 (by omega)
  have pn : ∀ a, aR (deN (pD A r) 8 A) a 0 = 1 → aR A a 0 = 1 := fun a z => by
    rw [e1] at z
    split at z
    · omega
    · exact z
  have t0 : ∀ a k, aT (deN (pD A r) 8 A) a k = aT A a k := fun a k => by show (deN (pD A r) 8 A).2.1 a k = _; rw [e2]
  have w0 : ∀ a b c e, aW (deN (pD A r) 8 A) a b c e = aW A a b c e := fun a b c e => by show (deN (pD A r) 8 A).2.2.1 a b c e = _; rw [e2]
  have c0 : ∀ k, aC (deN (pD A r) 8 A) k = aC A k := fun k => by show (deN (pD A r) 8 A).2.2.2.1 k = _; rw [e2]
  have gn : ∀ a d, wN (deN (pD A r) 8 A) a d = wN A a d := fun a d => wN_cg p3 (t0 a 1) (t0 a 2)
  have gus : ∀ a r' d, us (deN (pD A r) 8 A) a r' d = us A a r' d := fun a r' d => us_cg p3 (t0 a 0) (t0 a 1) (t0 a 2)
  refine ⟨fun a ha => by rw [t0]; exact hu.1 a ha, by rw [c0]; exact hu.2.1, fun a ha ho => ?_, fun b h1 hr hp => ?_, fun k hk => ?_⟩
  · rw [t0] at ho
    obtain ⟨o1, o2, o3, o4, o5, o6⟩ := hu.o ha ho
    unfold WFo
    simp only [t0, w0, gn, pk _ 1 (show ¬ (1 : Nat) = 0 by omega)]
    refine ⟨o1, o2, o3, ?_, o5, o6⟩
    rw [e1, if_neg]
    · exact o4
    · rintro ⟨-, -, z⟩
      have := (pD_iff.mp z).2
      rw [hno a ha ho] at this; cases this
  · have e : rsv (deN (pD A r) 8 A) b = rsv A b := by unfold rsv; simp only [gus, t0]
    rw [e, cap_cg p3 (fun a => pk a 2 (by omega)) (pk b 5 (by omega))]; exact hu.rsv h1 hr (pn b hp)
  · have e : opN (deN (pD A r) 8 A) k = opN A k := by unfold opN; simp only [t0]
    rw [e]; exact hu.2.2.2.2 k hk
theorem bits8_or : ∀ c : Fin 256, ∀ m : Fin 8, (nI c.val ||| (nI 1 <<< (nI m.val &&& nI 31))) = nI (c.val ||| 2 ^ m.val) := by decide +kernel
theorem bits8_at : ∀ c : Fin 256, ∀ m : Fin 8, ((nI c.val >>> (nI m.val &&& nI 31)) &&& nI 1 = nI 1) ↔ Nat.testBit c.val m.val = true := by decide +kernel
theorem bits8_0 : ∀ c : Fin 256, (nI c.val ||| nI 0) = nI c.val := by decide +kernel
theorem k186s (hM : RS μ A) (ht : WFt A) (hr : r < 8) (y : Int32) : ∃ c, c < 256 ∧ mLoop (s186L16 μ 200 (nI r) y) 1000 (nI 0, nI 1) = some (.inl (nI c)) ∧ ∀ m, 1 ≤ m → m < 8 → (Nat.testBit c m = true ↔ pD A r m = true) := by
  have hR := hM.1
  obtain ⟨o, e, c, h1, rfl, h2⟩ := mLoop_inv0 (b := s186L16 μ 200 (nI r) y) (fun i s => ∃ c, c < 256 ∧ s = (nI c, nI (1 + i)) ∧ ∀ m, m < 8 → (Nat.testBit c m = true ↔ (1 ≤ m ∧ m < 1 + i ∧ pD A r m = true))) 7 (fun o => ∃ c, c < 256 ∧ o = .inl (nI c) ∧ ∀ m, 1 ≤ m → m < 8 → (Nat.testBit c m = true ↔ pD A r m = true)) (fun i s hi hI => by
    obtain ⟨c, hc, rfl, hb⟩ := hI
    have hle := ht.le1 (r := 1 + i) (by omega)
    have no : ¬ pD A r (1 + i) = true → ∀ m, m < 8 → (Nat.testBit c m = true ↔ (1 ≤ m ∧ m < 1 + (i + 1) ∧ pD A r m = true)) := fun hn m hm => by
      rw [hb m hm]
      constructor
      · rintro ⟨a, b, d⟩; exact ⟨a, by omega, d⟩
      · rintro ⟨a, b, d⟩
        refine ⟨a, ?_, d⟩
        by_cases z : m = 1 + i
        · subst z; exact absurd d hn
        · omega
    have b0 := bits8_0 ⟨c, hc⟩
    simp only at b0
    left
    by_cases e1 : aR A (1 + i) 0 = 1
    · by_cases e4 : onb A r (1 + i) = true
      · have hpd : pD A r (1 + i) = true := pD_iff.mpr ⟨e1, e4⟩
        have bo := bits8_or ⟨c, hc⟩ ⟨1 + i, by omega⟩
        simp only at bo
        refine ⟨(nI (c ||| 2 ^ (1 + i)), nI (1 + (i + 1))), ?_, c ||| 2 ^ (1 + i), ?_, rfl, fun m hm => ?_⟩
        · rw [← bo]
          simp (disch := omega) only [s186L16_36, s186L16_35, s186L16, s186L44_67, s186L44_66, s186L44, s186L73_88, s186L73, s186_97, s186, RefL.s hR, RefL.r0 hR, RefL.r1 hR, RefL.r2 hR, RefL.r3 hR, RefL.r4 hR, RefL.r5 hR, RefL.r7 hR, RefL.r8 hR, RefL.r9 hR, RefL.r10 hR, RefL.r12 hR, RefL.r13 hR, RefL.r14 hR, RefL.r15 hR, RefL.r16 hR, RefL.r17 hR, RefL.r18 hR, RefL.r19 hR, RefL.a0 hR, RefL.a1 hR, RefL.a2 hR, RefL.a3 hR, RefL.a4 hR, RefL.a5 hR, RefL.a7 hR, RefL.a8 hR, RefL.a9 hR, RefL.a10 hR, RefL.a12 hR, RefL.a13 hR, RefL.a14 hR, RefL.a15 hR, RefL.a16 hR, RefL.a17 hR, RefL.a18 hR, RefL.a19 hR, k148 hM, k153 hM ht hr, e1, e4, bI_t, Option.bind_some, Sum.elim_inl, Sum.elim_inr, reduceIte, if_true, if_false, ite_true, ite_false, not_true_eq_false, not_false_eq_true, or_true, true_or, or_false, false_or, and_true, true_and, and_false, false_and, eq_self, ne_eq, Nat.reduceAdd, Nat.reduceMul, Nat.le_refl, ite_self, Nat.reduceEqDiff, Nat.reduceLeDiff, Nat.reduceLT, L_0, L_1, L_2, L_3, L_4, L_5, L_6, L_7, L_8, L_9, L_10, L_11, L_12, L_13, L_14, L_15, L_16, L_24, L_31, L_40, L_48, L_49, L_50, L_51, L_60, L_72, L_99, L_127, L_132, L_172, L_412, L_428, L_429, L_430, L_431, L_432, L_433, L_1000, nI_add, nI_mul, nI_leI, nI_ltI, nI_eq, m_cl, mInb_iff, nI_ng, ng_nI, ng_ng, nI_lt_ng, ng_lt_nI, nI_le_ng, ng_le_nI, show ¬ 8 ≤ 1 + i by omega, Nat.add_assoc]
        · have : 2 ^ (1 + i) < 2 ^ 8 := Nat.pow_lt_pow_right (by omega) (by omega)
          exact Nat.or_lt_two_pow (n := 8) hc this
        · rw [Nat.testBit_or, Bool.or_eq_true, hb m hm, Nat.testBit_two_pow]
          constructor
          · rintro (⟨a, b, d⟩ | z)
            · exact ⟨a, by omega, d⟩
            · have : 1 + i = m := by simpa using z
              exact ⟨by omega, by omega, by rw [← this]; exact hpd⟩
          · rintro ⟨a, b, d⟩
            by_cases z : m = 1 + i
            · right; simp [z]
            · left; exact ⟨a, by omega, d⟩
      · have e4' : onb A r (1 + i) = false := by simpa using e4
        refine ⟨(nI c, nI (1 + (i + 1))), ?_, c, hc, rfl, no (fun z => e4 (pD_iff.mp z).2)⟩
        simp (disch := omega) only [s186L16_36, s186L16_35, s186L16, s186L44_67, s186L44_66, s186L44, s186L73_88, s186L73, s186_97, s186, RefL.s hR, RefL.r0 hR, RefL.r1 hR, RefL.r2 hR, RefL.r3 hR, RefL.r4 hR, RefL.r5 hR, RefL.r7 hR, RefL.r8 hR, RefL.r9 hR, RefL.r10 hR, RefL.r12 hR, RefL.r13 hR, RefL.r14 hR, RefL.r15 hR, RefL.r16 hR, RefL.r17 hR, RefL.r18 hR, RefL.r19 hR, RefL.a0 hR, RefL.a1 hR, RefL.a2 hR, RefL.a3 hR, RefL.a4 hR, RefL.a5 hR, RefL.a7 hR, RefL.a8 hR, RefL.a9 hR, RefL.a10 hR, RefL.a12 hR, RefL.a13 hR, RefL.a14 hR, RefL.a15 hR, RefL.a16 hR, RefL.a17 hR, RefL.a18 hR, RefL.a19 hR, k148 hM, k153 hM ht hr, e1, e4', bI_f, b0, Option.bind_some, Sum.elim_inl, Sum.elim_inr, reduceIte, if_true, if_false, ite_true, ite_false, not_true_eq_false, not_false_eq_true, or_true, true_or, or_false, false_or, and_true, true_and, and_false, false_and, eq_self, ne_eq, Nat.reduceAdd, Nat.reduceMul, Nat.le_refl, ite_self, Nat.reduceEqDiff, Nat.reduceLeDiff, Nat.reduceLT, L_0, L_1, L_2, L_3, L_4, L_5, L_6, L_7, L_8, L_9, L_10, L_11, L_12, L_13, L_14, L_15, L_16, L_24, L_31, L_40, L_48, L_49, L_50, L_51, L_60, L_72, L_99, L_127, L_132, L_172, L_412, L_428, L_429, L_430, L_431, L_432, L_433, L_1000, nI_add, nI_mul, nI_leI, nI_ltI, nI_eq, m_cl, mInb_iff, nI_ng, ng_nI, ng_ng, nI_lt_ng, ng_lt_nI, nI_le_ng, ng_le_nI, show ¬ 8 ≤ 1 + i by omega, Nat.add_assoc]
    · refine ⟨(nI c, nI (1 + (i + 1))), ?_, c, hc, rfl, no (fun z => e1 (pD_iff.mp z).1)⟩
      simp (disch := omega) only [s186L16_36, s186L16_35, s186L16, s186L44_67, s186L44_66, s186L44, s186L73_88, s186L73, s186_97, s186, RefL.s hR, RefL.r0 hR, RefL.r1 hR, RefL.r2 hR, RefL.r3 hR, RefL.r4 hR, RefL.r5 hR, RefL.r7 hR, RefL.r8 hR, RefL.r9 hR, RefL.r10 hR, RefL.r12 hR, RefL.r13 hR, RefL.r14 hR, RefL.r15 hR, RefL.r16 hR, RefL.r17 hR, RefL.r18 hR, RefL.r19 hR, RefL.a0 hR, RefL.a1 hR, RefL.a2 hR, RefL.a3 hR, RefL.a4 hR, RefL.a5 hR, RefL.a7 hR, RefL.a8 hR, RefL.a9 hR, RefL.a10 hR, RefL.a12 hR, RefL.a13 hR, RefL.a14 hR, RefL.a15 hR, RefL.a16 hR, RefL.a17 hR, RefL.a18 hR, RefL.a19 hR, k148 hM, e1, b0, Option.bind_some, Sum.elim_inl, Sum.elim_inr, reduceIte, if_true, if_false, ite_true, ite_false, not_true_eq_false, not_false_eq_true, or_true, true_or, or_false, false_or, and_true, true_and, and_false, false_and, eq_self, ne_eq, Nat.reduceAdd, Nat.reduceMul, Nat.le_refl, ite_self, Nat.reduceEqDiff, Nat.reduceLeDiff, Nat.reduceLT, L_0, L_1, L_2, L_3, L_4, L_5, L_6, L_7, L_8, L_9, L_10, L_11, L_12, L_13, L_14, L_15, L_16, L_24, L_31, L_40, L_48, L_49, L_50, L_51, L_60, L_72, L_99, L_127, L_132, L_172, L_412, L_428, L_429, L_430, L_431, L_432, L_433, L_1000, nI_add, nI_mul, nI_leI, nI_ltI, nI_eq, m_cl, mInb_iff, nI_ng, ng_nI, ng_ng, nI_lt_ng, ng_lt_nI, nI_le_ng, ng_le_nI, show ¬ 8 ≤ 1 + i by omega, Nat.add_assoc]) (fun s hI => by
    obtain ⟨c, hc, rfl, hb⟩ := hI
    refine ⟨_, ?_, c, hc, rfl, fun m h1 h2 => ?_⟩
    · simp (disch := omega) only [s186L16_36, s186L16_35, s186L16, s186L44_67, s186L44_66, s186L44, s186L73_88, s186L73, s186_97, s186, Option.bind_some, Sum.elim_inl, Sum.elim_inr, reduceIte, if_true, if_false, ite_true, ite_false, not_true_eq_false, not_false_eq_true, or_true, true_or, or_false, false_or, and_true, true_and, and_false, false_and, eq_self, ne_eq, Nat.reduceAdd, Nat.reduceMul, Nat.le_refl, ite_self, Nat.reduceEqDiff, Nat.reduceLeDiff, Nat.reduceLT, L_0, L_1, L_2, L_3, L_4, L_5, L_6, L_7, L_8, L_9, L_10, L_11, L_12, L_13, L_14, L_15, L_16, L_24, L_31, L_40, L_48, L_49, L_50, L_51, L_60, L_72, L_99, L_127, L_132, L_172, L_412, L_428, L_429, L_430, L_431, L_432, L_433, L_1000, nI_add, nI_mul, nI_leI, nI_ltI, nI_eq, m_cl, mInb_iff, nI_ng, ng_nI, ng_ng, nI_lt_ng, ng_lt_nI, nI_le_ng, ng_le_nI]
    · rw [hb m h2]; exact ⟨fun z => z.2.2, fun z => ⟨h1, by omega, z⟩⟩) (s := (nI 0, nI 1)) ⟨0, by omega, rfl, fun m hm => ⟨fun z => by simp at z, fun z => by omega⟩⟩ (n := 1000) (by omega)
  exact ⟨c, h1, e, h2⟩
theorem RS.cgA (hM : RS μ A) (h : A = A') : RS μ A' := h ▸ hM
end UN
