/-! the text read: what it means, letter by letter -/
def u1 (g : Nat → Nat) (i v : Nat) : Nat → Nat := fun a => if a = i then v else g a
/-- routers read, current parent, whether a digit is due, whether a parenthesis may open; kinds, generations, parents, ports, depths, ports taken -/
abbrev PS : Type := Nat × Nat × Bool × Bool × (Nat → Nat) × (Nat → Nat) × (Nat → Nat) × (Nat → Nat) × (Nat → Nat) × (Nat → Nat)
def kdOf (c : Nat) : Nat := if c = 104 then 0 else if c = 115 then 1 else if c = 100 then 2 else if c = 110 then 3 else 4
def pRt (k : Nat) : PS → Option PS
  | (N, A, U, M, K, G, P, O, D, T) => if U = true ∨ N = 7 ∨ portsK (K A) ≤ T A ∨ 4 ≤ D A then none else some (N + 1, A, true, false, u1 K (N + 1) k, G, u1 P (N + 1) A, u1 O (N + 1) (T A), u1 D (N + 1) (D A + 1), u1 (u1 T (N + 1) 0) A (T A + 1))
def pDg (g : Nat) : PS → Option PS
  | (N, A, U, M, K, G, P, O, D, T) => if U = true then some (N, A, false, true, K, u1 G N g, P, O, D, T) else none
def pOp : PS → Option PS
  | (N, A, U, M, K, G, P, O, D, T) => if M = true then some (N, N, U, false, K, G, P, O, D, T) else none
def pCl : PS → Option PS
  | (N, A, U, M, K, G, P, O, D, T) => if U = true ∨ A = 0 then none else some (N, P A, U, false, K, G, P, O, D, T)
def pStep (c : Nat) (s : PS) : Option PS :=
  if c = 32 then some s else if c = 40 then pOp s else if c = 41 then pCl s else if 49 ≤ c ∧ c ≤ 51 then pDg (c - 48) s else if kdOf c = 4 then none else pRt (kdOf c) s
def pRun (c : Nat → Nat) : Nat → Nat → PS → Nat ⊕ PS
  | 0, _, s => .inr s
  | k + 1, i, s => match pStep (c i) s with
    | none => .inl i
    | some s' => pRun c k (i + 1) s'
def pS0 : PS := (0, 0, false, false, fun _ => 4, fun _ => 0, fun _ => 0, fun _ => 0, fun _ => 0, fun _ => 0)
def PW : PS → Prop
  | (N, A, U, M, K, G, P, O, D, T) => N ≤ 7 ∧ A ≤ N ∧ K 0 = 4 ∧ D 0 = 0 ∧ (∀ k, 1 ≤ k → k ≤ N → K k ≤ 3 ∧ P k < k ∧ D k = D (P k) + 1 ∧ D k ≤ 4 ∧ O k < T (P k)) ∧ (∀ k, k ≤ N → T k ≤ portsK (K k)) ∧ (∀ j k, 1 ≤ j → j ≤ N → 1 ≤ k → k ≤ N → P j = P k → O j = O k → j = k) ∧ (∀ k, 1 ≤ k → k ≤ N → ¬ (U = true ∧ k = N) → 1 ≤ G k ∧ G k ≤ 3) ∧ ((U = true ∨ M = true) → 1 ≤ N ∧ P N = A ∧ T N = 0) ∧ (U = true → M = false)
theorem PW_0 : PW pS0 := ⟨by omega, by omega, rfl, rfl, fun k a b => by omega, fun k _ => by show 0 ≤ _; omega, fun j k a b => by omega, fun k a b => by omega, fun h => (by rcases h with h | h <;> cases h), fun h => (by cases h)⟩
theorem PW_Rt {k : Nat} (hk : k ≤ 3) : ∀ {s s' : PS}, PW s → pRt k s = some s' → PW s'
  | (N, A, U, M, K, G, P, O, D, T), s', h, e => by
    obtain ⟨h1, h2, h3, h4, h5, h6, h7, h8, h9, h10⟩ := h
    unfold pRt at e
    by_cases z : U = true ∨ N = 7 ∨ portsK (K A) ≤ T A ∨ 4 ≤ D A
    · simp only [z, if_true] at e; cases e
    · simp only [z, if_false] at e
      cases e
      have z1 : ¬ U = true := fun y => z (Or.inl y)
      have z2 : ¬ N = 7 := fun y => z (Or.inr (Or.inl y))
      have z3 : ¬ portsK (K A) ≤ T A := fun y => z (Or.inr (Or.inr (Or.inl y)))
      have z4 : ¬ 4 ≤ D A := fun y => z (Or.inr (Or.inr (Or.inr y)))
      have tge : ∀ a, a ≤ N → T a ≤ u1 (u1 T (N + 1) 0) A (T A + 1) a := fun a ha => by
        unfold u1
        by_cases y : a = A
        · rw [if_pos y, y]; omega
        · rw [if_neg y, if_neg (by omega)]; exact Nat.le_refl _
      refine ⟨by omega, by omega, ?_, ?_, fun a a1 a2 => ?_, fun a a2 => ?_, fun i j i1 i2 j1 j2 hp ho => ?_, fun a a1 a2 a3 => ?_, fun _ => ⟨by omega, ?_, ?_⟩, fun _ => rfl⟩
      · unfold u1; rw [if_neg (by omega)]; exact h3
      · unfold u1; rw [if_neg (by omega)]; exact h4
      · by_cases y : a = N + 1
        · subst y
          have e1 : u1 P (N + 1) A (N + 1) = A := by unfold u1; rw [if_pos rfl]
          have e2 : u1 D (N + 1) (D A + 1) A = D A := by unfold u1; rw [if_neg (by omega)]
          have e3 : u1 D (N + 1) (D A + 1) (N + 1) = D A + 1 := by unfold u1; rw [if_pos rfl]
          have e4 : u1 O (N + 1) (T A) (N + 1) = T A := by unfold u1; rw [if_pos rfl]
          have e5 : u1 (u1 T (N + 1) 0) A (T A + 1) A = T A + 1 := by unfold u1; rw [if_pos rfl]
          have e6 : u1 K (N + 1) k (N + 1) = k := by unfold u1; rw [if_pos rfl]
          rw [e1, e2, e3, e4, e5, e6]
          exact ⟨hk, by omega, rfl, by omega, by omega⟩
        · obtain ⟨q1, q2, q3, q4, q5⟩ := h5 a a1 (by omega)
          have e1 : u1 P (N + 1) A a = P a := by unfold u1; rw [if_neg y]
          have e2 : ∀ b, b ≤ N → u1 D (N + 1) (D A + 1) b = D b := fun b hb => by unfold u1; rw [if_neg (by omega)]
          have e4 : u1 O (N + 1) (T A) a = O a := by unfold u1; rw [if_neg y]
          have e6 : u1 K (N + 1) k a = K a := by unfold u1; rw [if_neg y]
          rw [e1, e2 a (by omega), e2 (P a) (by omega), e4, e6]
          have := tge (P a) (by omega)
          exact ⟨q1, q2, q3, q4, by omega⟩
      · by_cases y : a = N + 1
        · subst y
          unfold u1; rw [if_neg (by omega), if_pos rfl]; omega
        · have e6 : u1 K (N + 1) k a = K a := by unfold u1; rw [if_neg y]
          rw [e6]
          by_cases w : a = A
          · subst w; unfold u1; rw [if_pos rfl]; omega
          · unfold u1; rw [if_neg w, if_neg y]; exact h6 a (by omega)
      · have eP : ∀ b, b ≤ N → u1 P (N + 1) A b = P b := fun b hb => by unfold u1; rw [if_neg (by omega)]
        have eO : ∀ b, b ≤ N → u1 O (N + 1) (T A) b = O b := fun b hb => by unfold u1; rw [if_neg (by omega)]
        have eP' : u1 P (N + 1) A (N + 1) = A := by unfold u1; rw [if_pos rfl]
        have eO' : u1 O (N + 1) (T A) (N + 1) = T A := by unfold u1; rw [if_pos rfl]
        by_cases yi : i = N + 1
        · by_cases yj : j = N + 1
          · omega
          · exfalso
            rw [yi, eP', eP j (by omega)] at hp
            rw [yi, eO', eO j (by omega)] at ho
            have := (h5 j j1 (by omega)).2.2.2.2
            rw [← hp] at this; omega
        · by_cases yj : j = N + 1
          · exfalso
            rw [yj, eP', eP i (by omega)] at hp
            rw [yj, eO', eO i (by omega)] at ho
            have := (h5 i i1 (by omega)).2.2.2.2
            rw [hp] at this; omega
          · rw [eP i (by omega), eP j (by omega)] at hp
            rw [eO i (by omega), eO j (by omega)] at ho
            exact h7 i j i1 (by omega) j1 (by omega) hp ho
      · have : ¬ a = N + 1 := fun y => a3 ⟨rfl, y⟩
        exact h8 a a1 (by omega) (fun y => z1 y.1)
      · unfold u1; rw [if_pos rfl]
      · unfold u1; rw [if_neg (by omega), if_pos rfl]
theorem PW_step {c : Nat} : ∀ {s s' : PS}, PW s → pStep c s = some s' → PW s'
  | (N, A, U, M, K, G, P, O, D, T), s', h, e => by
    unfold pStep at e
    by_cases c1 : c = 32
    · rw [if_pos c1] at e; cases e; exact h
    rw [if_neg c1] at e
    by_cases c2 : c = 40
    · rw [if_pos c2] at e
      obtain ⟨h1, h2, h3, h4, h5, h6, h7, h8, h9, h10⟩ := h
      unfold pOp at e
      by_cases z : M = true
      · simp only [z, if_true] at e
        cases e
        have zu : U = false := by
          cases U
          · rfl
          · have := h10 rfl; rw [this] at z; cases z
        exact ⟨h1, Nat.le_refl _, h3, h4, h5, h6, h7, h8, fun y => (by rw [zu] at y; rcases y with y | y <;> cases y), fun _ => rfl⟩
      · simp only [z, if_false] at e; cases e
    rw [if_neg c2] at e
    by_cases c3 : c = 41
    · rw [if_pos c3] at e
      obtain ⟨h1, h2, h3, h4, h5, h6, h7, h8, h9, h10⟩ := h
      unfold pCl at e
      by_cases z : U = true ∨ A = 0
      · simp only [z, if_true] at e; cases e
      · simp only [z, if_false] at e
        cases e
        have zu : U = false := by
          cases U
          · rfl
          · exact absurd (Or.inl rfl) z
        have zA : ¬ A = 0 := fun y => z (Or.inr y)
        have := (h5 A (by omega) h2).2.1
        exact ⟨h1, by omega, h3, h4, h5, h6, h7, h8, fun y => (by rw [zu] at y; rcases y with y | y <;> cases y), fun _ => rfl⟩
    rw [if_neg c3] at e
    by_cases c4 : 49 ≤ c ∧ c ≤ 51
    · rw [if_pos c4] at e
      obtain ⟨h1, h2, h3, h4, h5, h6, h7, h8, h9, h10⟩ := h
      unfold pDg at e
      by_cases z : U = true
      · simp only [z, if_true] at e
        cases e
        refine ⟨h1, h2, h3, h4, h5, h6, h7, fun a a1 a2 _ => ?_, fun _ => h9 (Or.inl z), fun y => by cases y⟩
        unfold u1
        by_cases y : a = N
        · rw [if_pos y]; omega
        · rw [if_neg y]; exact h8 a a1 a2 (fun w => y w.2)
      · simp only [z, if_false] at e; cases e
    rw [if_neg c4] at e
    by_cases c5 : kdOf c = 4
    · rw [if_pos c5] at e; cases e
    · rw [if_neg c5] at e
      refine PW_Rt ?_ h e
      have : kdOf c ≤ 4 := by unfold kdOf; repeat' split
                              all_goals omega
      omega
theorem PW_run {c : Nat → Nat} : ∀ {k i : Nat} {s s' : PS}, PW s → pRun c k i s = .inr s' → PW s'
  | 0, i, s, s', h, e => by cases e; exact h
  | k + 1, i, s, s', h, e => by
    unfold pRun at e
    cases q : pStep (c i) s with
    | none => rw [q] at e; cases e
    | some s1 => rw [q] at e; exact PW_run (PW_step h q) e
section PC
variable {μ ν : mM} {c : Nat}
/-- an array's element laid -/
theorem stA {β : Type} {g : mM → Option β} {r : Option β} {q q' n j : Nat} {i x x' : Int32} (hp : q = q') (hq : mS μ q' = (10, n)) (hi : i = nI j) (hj : j < n) (hn : n < 2 ^ 31) (hx : x = x') (h : g (mUI μ q' j x') = r) : (if (mS μ q).1 = 10 ∧ mInb i (mS μ q).2 then (some (mUI μ q (Int32.toNatClampNeg i) x)).bind g else none) = r := by
  subst hp hi hx
  rw [hq, if_pos ⟨rfl, (mInb_iff (by omega)).mpr hj⟩, m_cl (by omega)]
  exact h
theorem ckA {α : Type} {y r : Option α} {q q' n j : Nat} {i : Int32} (hp : q = q') (hq : mS μ q' = (10, n)) (hi : i = nI j) (hj : j < n) (hn : n < 2 ^ 31) (h : y = r) : (if (mS μ q).1 = 10 ∧ mInb i (mS μ q).2 then y else none) = r := by
  subst hp hi
  rw [hq, if_pos ⟨rfl, (mInb_iff (by omega)).mpr hj⟩]
  exact h
theorem L_32 : (32 : Int32) = nI 32 := rfl
theorem L_41 : (41 : Int32) = nI 41 := rfl
theorem L_100 : (100 : Int32) = nI 100 := rfl
theorem L_104 : (104 : Int32) = nI 104 := rfl
theorem L_110 : (110 : Int32) = nI 110 := rfl
theorem L_115 : (115 : Int32) = nI 115 := rfl
/-- the class's rows for it -/
def PCl (ν : mM) : PS → Prop
  | (N, A, U, M, K, G, P, O, D, T) => mI ν 3 8 = nI N ∧ mI ν 3 9 = nI A ∧ mI ν 3 10 = bI U ∧ mI ν 3 11 = bI M ∧ (∀ k, k ≤ N → mI ν 5 k = nI (K k) ∧ mI ν 9 k = nI (D k) ∧ mI ν 10 k = nI (T k)) ∧ ∀ k, 1 ≤ k → k ≤ N → mI ν 7 k = nI (P k) ∧ mI ν 8 k = nI (O k) ∧ (¬ (U = true ∧ k = N) → mI ν 6 k = nI (G k))
def FrP (μ ν : mM) : Prop := ν.2 = μ.2 ∧ ∀ q j, ¬ ((q = 3 ∧ 8 ≤ j) ∨ (5 ≤ q ∧ q ≤ 10)) → mI ν q j = mI μ q j
theorem FrP.refl (μ : mM) : FrP μ μ := ⟨rfl, fun _ _ _ => rfl⟩
theorem FrP.trans {μ ν ρ : mM} (h1 : FrP μ ν) (h2 : FrP ν ρ) : FrP μ ρ := ⟨h2.1.trans h1.1, fun q j h => (h2.2 q j h).trans (h1.2 q j h)⟩
theorem FrP_UI {q j : Nat} {x : Int32} (h : (q = 3 ∧ 8 ≤ j) ∨ (5 ≤ q ∧ q ≤ 10)) : FrP μ (mUI μ q j x) := ⟨rfl, fun a b hn => by
  rw [mI_UI, if_neg (fun z => hn (by rw [z.1, z.2]; exact h))]⟩
/-- a router's letter -/
theorem j66 {k : Nat} (hk : k ≤ 3) (hP : PlanL (mS μ) (mP μ) 3) : ∀ {s : PS}, PW s → PCl μ s → (∃ s' ν, pRt k s = some s' ∧ s66 μ 3 (nI k) = some (nI 1, ν) ∧ PCl ν s' ∧ FrP μ ν) ∨ (pRt k s = none ∧ s66 μ 3 (nI k) = some (nI 0, μ))
  | (N, A, U, M, K, G, P, O, D, T), hW, hC => by
    obtain ⟨h1, h2, h3, h4, h5, h6, h7, h8, h9, h10⟩ := hW
    obtain ⟨c1, c2, c3, c4, c5, c6⟩ := hC
    obtain ⟨a5, a9, a10⟩ := c5 A h2
    have hKA : K A ≤ 4 := by
      by_cases z : A = 0
      · rw [z, h3]; omega
      · have := (h5 A (by omega) h2).1; omega
    have hpk := portsK_le (K A)
    have hTA := h6 A h2
    obtain ⟨p1, p2, p3, p4, p5, p6, p7, p8, q1, q2, q3, q4, q5, q6, q7⟩ := hP
    have DA : D A ≤ 4 := by
      by_cases z : A = 0
      · rw [z, h4]; omega
      · have := (h5 A (by omega) h2).2.2.2.1; omega
    cases hU : U with
    | true =>
      right
      subst hU
      refine ⟨by unfold pRt; simp, ?_⟩
      unfold s66
      exact iteT (by rw [p1]) (iteT (by rw [c3]; decide) rfl)
    | false =>
      subst hU
      by_cases zN : N = 7
      · right
        refine ⟨by unfold pRt; simp [zN], ?_⟩
        have b1 : s131 μ (nI (N + 1)) (nI 1) (nI 7) = some (nI 0) := by rw [j131 (by omega) (by omega) (by omega)]; simp [zN, bI]
        unfold s66
        exact iteT (by rw [p1]) (iteF (by rw [c3]; decide) (bindS (by rw [c1, show nI N + 1 = nI (N + 1) from nI_add _ 1]; exact b1) (iteT rfl rfl)))
      · have b1 : s131 μ (nI (N + 1)) (nI 1) (nI 7) = some (nI 1) := by
          rw [j131 (by omega) (by omega) (by omega)]; simp [bI]; omega
        have b2 : s131 μ (nI A) (nI 0) (nI 7) = some (nI 1) := by
          rw [j131 (by omega) (by omega) (by omega)]; simp [bI]; omega
        have hA8 : A < 8 := by omega
        by_cases z : portsK (K A) ≤ T A ∨ 4 ≤ D A
        · right
          refine ⟨by unfold pRt; simp only [if_pos (show (false = true ∨ N = 7 ∨ portsK (K A) ≤ T A ∨ 4 ≤ D A) from Or.inr (Or.inr z))], ?_⟩
          have b3 : s67 μ 3 = some (nI 0) := by
            by_cases z1 : portsK (K A) ≤ T A
            · simp (disch := omega) only [s67, s67_27, s67_28, p1, p2, p3, p6, p7, p8, q2, q6, q7, c2, b2, a5, a9, a10, j133, z1, hA8, Option.bind_some, Sum.elim_inl, Sum.elim_inr, reduceIte, if_true, if_false, ite_true, ite_false, not_true_eq_false, not_false_eq_true, or_true, true_or, or_false, false_or, and_true, true_and, and_false, false_and, eq_self, ne_eq, Nat.reduceAdd, Nat.reduceMul, Nat.le_refl, ite_self, Nat.reduceEqDiff, Nat.reduceLeDiff, Nat.reduceLT, L_0, L_1, L_2, L_3, L_4, L_5, L_6, L_7, L_8, L_9, L_10, L_11, L_12, L_13, L_14, L_15, L_16, L_24, L_31, L_40, L_48, L_49, L_50, L_51, L_60, L_72, L_99, L_127, L_132, L_172, L_412, L_428, L_429, L_430, L_431, L_432, L_433, L_1000, nI_add, nI_mul, nI_leI, nI_ltI, nI_eq, m_cl, mInb_iff, nI_ng, ng_nI, ng_ng, nI_lt_ng, ng_lt_nI, nI_le_ng, ng_le_nI]
            · have z2 : 4 ≤ D A := z.resolve_left z1
              simp (disch := omega) only [s67, s67_27, s67_28, p1, p2, p3, p6, p7, p8, q2, q6, q7, c2, b2, a5, a9, a10, j133, z1, z2, hA8, Option.bind_some, Sum.elim_inl, Sum.elim_inr, reduceIte, if_true, if_false, ite_true, ite_false, not_true_eq_false, not_false_eq_true, or_true, true_or, or_false, false_or, and_true, true_and, and_false, false_and, eq_self, ne_eq, Nat.reduceAdd, Nat.reduceMul, Nat.le_refl, ite_self, Nat.reduceEqDiff, Nat.reduceLeDiff, Nat.reduceLT, L_0, L_1, L_2, L_3, L_4, L_5, L_6, L_7, L_8, L_9, L_10, L_11, L_12, L_13, L_14, L_15, L_16, L_24, L_31, L_40, L_48, L_49, L_50, L_51, L_60, L_72, L_99, L_127, L_132, L_172, L_412, L_428, L_429, L_430, L_431, L_432, L_433, L_1000, nI_add, nI_mul, nI_leI, nI_ltI, nI_eq, m_cl, mInb_iff, nI_ng, ng_nI, ng_ng, nI_lt_ng, ng_lt_nI, nI_le_ng, ng_le_nI]
          unfold s66
          exact iteT (by rw [p1]) (iteF (by rw [c3]; decide) (bindS (by rw [c1, show nI N + 1 = nI (N + 1) from nI_add _ 1]; exact b1) (iteF (by decide) (bindS b3 (iteF (by decide) rfl)))))
        · left
          have z1 : ¬ portsK (K A) ≤ T A := fun y => z (Or.inl y)
          have z2 : ¬ 4 ≤ D A := fun y => z (Or.inr y)
          have b3 : s67 μ 3 = some (nI 1) := by
            simp (disch := omega) only [s67, s67_27, s67_28, p1, p2, p3, p6, p7, p8, q2, q6, q7, c2, b2, a5, a9, a10, j133, z1, z2, hA8, Option.bind_some, Sum.elim_inl, Sum.elim_inr, reduceIte, if_true, if_false, ite_true, ite_false, not_true_eq_false, not_false_eq_true, or_true, true_or, or_false, false_or, and_true, true_and, and_false, false_and, eq_self, ne_eq, Nat.reduceAdd, Nat.reduceMul, Nat.le_refl, ite_self, Nat.reduceEqDiff, Nat.reduceLeDiff, Nat.reduceLT, L_0, L_1, L_2, L_3, L_4, L_5, L_6, L_7, L_8, L_9, L_10, L_11, L_12, L_13, L_14, L_15, L_16, L_24, L_31, L_40, L_48, L_49, L_50, L_51, L_60, L_72, L_99, L_127, L_132, L_172, L_412, L_428, L_429, L_430, L_431, L_432, L_433, L_1000, nI_add, nI_mul, nI_leI, nI_ltI, nI_eq, m_cl, mInb_iff, nI_ng, ng_nI, ng_ng, nI_lt_ng, ng_lt_nI, nI_le_ng, ng_le_nI]
          have hN8 : N + 1 < 8 := by omega
          have hNA : ¬ A = N + 1 := by omega
          refine ⟨_, mUI (mUI (mUI (mUI (mUI (mUI (mUI (mUI (mUI μ 3 8 (nI (N + 1))) 5 (N + 1) (nI k)) 7 (N + 1) (nI A)) 8 (N + 1) (nI (T A))) 9 (N + 1) (nI (D A + 1))) 10 (N + 1) (nI 0)) 10 A (nI (T A + 1))) 3 10 (nI 1)) 3 11 (nI 0), by unfold pRt; simp only [if_neg (show ¬ (false = true ∨ N = 7 ∨ portsK (K A) ≤ T A ∨ 4 ≤ D A) from fun y => by rcases y with y | y | y; cases y; exact zN y; exact z y)]; rfl, ?_, ?_, ?_⟩
          · unfold s66
            refine iteT (by rw [p1]) (iteF (by rw [c3]; decide) (bindS (by rw [c1, show nI N + 1 = nI (N + 1) from nI_add _ 1]; exact b1) (iteF (by decide) (bindS b3 (iteT (by decide) ?_)))))
            refine bindS (v := mUI μ 3 8 (nI (N + 1))) (by rw [c1, show nI N + 1 = nI (N + 1) from nI_add _ 1]) ?_
            refine stA (q' := 5) (n := 8) (j := N + 1) (x' := nI k) p3 q2 (by simp [mI_UI]) hN8 (by omega) rfl ?_
            refine stA (q' := 7) (n := 8) (j := N + 1) (x' := nI A) p5 q4 (by simp [mI_UI]) hN8 (by omega) (by simp [mI_UI]; exact c2) ?_
            have g10 : mI (mUI (mUI (mUI μ 3 8 (nI (N + 1))) 5 (N + 1) (nI k)) 7 (N + 1) (nI A)) 3 9 = nI A := by simp [mI_UI]; exact c2
            refine ckA (q' := 10) (n := 8) (j := A) p8 q7 g10 hA8 (by omega) ?_
            refine stA (q' := 8) (n := 8) (j := N + 1) (x' := nI (T A)) p6 q5 (by simp [mI_UI]) hN8 (by omega) (by
              rw [g10, m_cl (by omega), show mP (mUI (mUI (mUI μ 3 8 (nI (N + 1))) 5 (N + 1) (nI k)) 7 (N + 1) (nI A)) 3 7 = 10 from p8]
              simp [mI_UI]; exact a10) ?_
            have g13 : mI (mUI (mUI (mUI (mUI μ 3 8 (nI (N + 1))) 5 (N + 1) (nI k)) 7 (N + 1) (nI A)) 8 (N + 1) (nI (T A))) 3 9 = nI A := by simp [mI_UI]; exact c2
            refine ckA (q' := 9) (n := 8) (j := A) p7 q6 g13 hA8 (by omega) ?_
            refine stA (q' := 9) (n := 8) (j := N + 1) (x' := nI (D A + 1)) p7 q6 (by simp [mI_UI]) hN8 (by omega) (by
              rw [g13, m_cl (by omega), show mP (mUI (mUI (mUI (mUI μ 3 8 (nI (N + 1))) 5 (N + 1) (nI k)) 7 (N + 1) (nI A)) 8 (N + 1) (nI (T A))) 3 6 = 9 from p7]
              rw [show mI (mUI (mUI (mUI (mUI μ 3 8 (nI (N + 1))) 5 (N + 1) (nI k)) 7 (N + 1) (nI A)) 8 (N + 1) (nI (T A))) 9 A = nI (D A) by simp [mI_UI]; exact a9]
              exact nI_add _ 1) ?_
            refine stA (q' := 10) (n := 8) (j := N + 1) (x' := nI 0) p8 q7 (by simp [mI_UI]) hN8 (by omega) rfl ?_
            have g18 : mI (mUI (mUI (mUI (mUI (mUI (mUI μ 3 8 (nI (N + 1))) 5 (N + 1) (nI k)) 7 (N + 1) (nI A)) 8 (N + 1) (nI (T A))) 9 (N + 1) (nI (D A + 1))) 10 (N + 1) (nI 0)) 3 9 = nI A := by simp [mI_UI]; exact c2
            refine stA (q' := 10) (n := 8) (j := A) (x' := nI (T A + 1)) p8 q7 g18 hA8 (by omega) (by
              rw [g18, m_cl (by omega), show mP (mUI (mUI (mUI (mUI (mUI (mUI μ 3 8 (nI (N + 1))) 5 (N + 1) (nI k)) 7 (N + 1) (nI A)) 8 (N + 1) (nI (T A))) 9 (N + 1) (nI (D A + 1))) 10 (N + 1) (nI 0)) 3 7 = 10 from p8]
              rw [show mI (mUI (mUI (mUI (mUI (mUI (mUI μ 3 8 (nI (N + 1))) 5 (N + 1) (nI k)) 7 (N + 1) (nI A)) 8 (N + 1) (nI (T A))) 9 (N + 1) (nI (D A + 1))) 10 (N + 1) (nI 0)) 10 A = nI (T A) by simp [mI_UI, hNA]; exact a10]
              exact nI_add _ 1) ?_
            rfl
          · refine ⟨?_, ?_, ?_, ?_, fun a ha => ⟨?_, ?_, ?_⟩, fun a a1 ha => ⟨?_, ?_, fun hn => ?_⟩⟩
            · simp [mI_UI]
            · simp [mI_UI]; exact c2
            · simp [mI_UI]; rfl
            · simp [mI_UI]; rfl
            · by_cases y : a = N + 1
              · simp [mI_UI, y, u1]
              · simp [mI_UI, y, u1]; exact (c5 a (by omega)).1
            · by_cases y : a = N + 1
              · simp [mI_UI, y, u1]
              · simp [mI_UI, y, u1]; exact (c5 a (by omega)).2.1
            · by_cases w : a = A
              · simp [mI_UI, w, u1]
              · by_cases y : a = N + 1
                · subst y; simp [mI_UI, w, u1]
                · simp [mI_UI, w, y, u1]; exact (c5 a (by omega)).2.2
            · by_cases y : a = N + 1
              · simp [mI_UI, y, u1]
              · simp [mI_UI, y, u1]; exact (c6 a a1 (by omega)).1
            · by_cases y : a = N + 1
              · simp [mI_UI, y, u1]
              · simp [mI_UI, y, u1]; exact (c6 a a1 (by omega)).2.1
            · have y : ¬ a = N + 1 := fun y => hn ⟨rfl, y⟩
              simp [mI_UI]; exact (c6 a a1 (by omega)).2.2 (fun w => by cases w.1)
          · refine (((((((((FrP_UI ?_).trans (FrP_UI ?_)).trans (FrP_UI ?_)).trans (FrP_UI ?_)).trans (FrP_UI ?_)).trans (FrP_UI ?_)).trans (FrP_UI ?_)).trans (FrP_UI ?_)).trans (FrP_UI ?_)) <;> omega
/-- a digit -/
theorem j68 {g : Nat} (hg : g ≤ 3) (hP : PlanL (mS μ) (mP μ) 3) : ∀ {s : PS}, PW s → PCl μ s → (∃ s' ν, pDg g s = some s' ∧ s68 μ 3 (nI g) = some (nI 1, ν) ∧ PCl ν s' ∧ FrP μ ν) ∨ (pDg g s = none ∧ s68 μ 3 (nI g) = some (nI 0, μ))
  | (N, A, U, M, K, G, P, O, D, T), hW, hC => by
    obtain ⟨h1, h2, h3, h4, h5, h6, h7, h8, h9, h10⟩ := hW
    obtain ⟨c1, c2, c3, c4, c5, c6⟩ := hC
    obtain ⟨p1, p2, p3, p4, p5, p6, p7, p8, q1, q2, q3, q4, q5, q6, q7⟩ := hP
    cases hU : U with
    | false =>
      right
      subst hU
      refine ⟨by unfold pDg; simp, ?_⟩
      simp (disch := omega) only [s68, s68_9, p1, c3, bI_f, Option.bind_some, Sum.elim_inl, Sum.elim_inr, reduceIte, if_true, if_false, ite_true, ite_false, not_true_eq_false, not_false_eq_true, or_true, true_or, or_false, false_or, and_true, true_and, and_false, false_and, eq_self, ne_eq, Nat.reduceAdd, Nat.reduceMul, Nat.le_refl, ite_self, Nat.reduceEqDiff, Nat.reduceLeDiff, Nat.reduceLT, L_0, L_1, L_2, L_3, L_4, L_5, L_6, L_7, L_8, L_9, L_10, L_11, L_12, L_13, L_14, L_15, L_16, L_24, L_31, L_40, L_48, L_49, L_50, L_51, L_60, L_72, L_99, L_127, L_132, L_172, L_412, L_428, L_429, L_430, L_431, L_432, L_433, L_1000, nI_add, nI_mul, nI_leI, nI_ltI, nI_eq, m_cl, mInb_iff, nI_ng, ng_nI, ng_ng, nI_lt_ng, ng_lt_nI, nI_le_ng, ng_le_nI]
    | true =>
      left
      subst hU
      obtain ⟨n1, n2, n3⟩ := h9 (Or.inl rfl)
      have b1 : s131 μ (nI N) (nI 1) (nI 7) = some (nI 1) := by
        rw [j131 (by omega) (by omega) (by omega)]; simp [bI]; omega
      have hN8 : N < 8 := by omega
      refine ⟨_, mUI (mUI (mUI μ 6 N (nI g)) 3 10 (nI 0)) 3 11 (nI 1), by unfold pDg; simp only [if_true]; rfl, ?_, ?_, ?_⟩
      · simp (disch := omega) only [s68, s68_9, p1, p4, q3, c1, c3, b1, bI_t, mS_UI, mP_UI, mI_UI, hN8, Option.bind_some, Sum.elim_inl, Sum.elim_inr, reduceIte, if_true, if_false, ite_true, ite_false, not_true_eq_false, not_false_eq_true, or_true, true_or, or_false, false_or, and_true, true_and, and_false, false_and, eq_self, ne_eq, Nat.reduceAdd, Nat.reduceMul, Nat.le_refl, ite_self, Nat.reduceEqDiff, Nat.reduceLeDiff, Nat.reduceLT, L_0, L_1, L_2, L_3, L_4, L_5, L_6, L_7, L_8, L_9, L_10, L_11, L_12, L_13, L_14, L_15, L_16, L_24, L_31, L_40, L_48, L_49, L_50, L_51, L_60, L_72, L_99, L_127, L_132, L_172, L_412, L_428, L_429, L_430, L_431, L_432, L_433, L_1000, nI_add, nI_mul, nI_leI, nI_ltI, nI_eq, m_cl, mInb_iff, nI_ng, ng_nI, ng_ng, nI_lt_ng, ng_lt_nI, nI_le_ng, ng_le_nI]
      · refine ⟨?_, ?_, ?_, ?_, fun a ha => ⟨?_, ?_, ?_⟩, fun a a1 ha => ⟨?_, ?_, fun hn => ?_⟩⟩
        · simp [mI_UI]; exact c1
        · simp [mI_UI]; exact c2
        · simp [mI_UI]; rfl
        · simp [mI_UI]; rfl
        · simp [mI_UI]; exact (c5 a ha).1
        · simp [mI_UI]; exact (c5 a ha).2.1
        · simp [mI_UI]; exact (c5 a ha).2.2
        · simp [mI_UI]; exact (c6 a a1 ha).1
        · simp [mI_UI]; exact (c6 a a1 ha).2.1
        · by_cases y : a = N
          · simp [mI_UI, y, u1]
          · simp [mI_UI, y, u1]; exact (c6 a a1 ha).2.2 (fun w => y w.2)
      · refine ((FrP_UI ?_).trans (FrP_UI ?_)).trans (FrP_UI ?_) <;> omega
theorem j64 (hP : PlanL (mS μ) (mP μ) 3) : ∀ {s : PS}, PW s → PCl μ s → (∃ s' ν, pOp s = some s' ∧ s64 μ 3 = some (nI 1, ν) ∧ PCl ν s' ∧ FrP μ ν) ∨ (pOp s = none ∧ s64 μ 3 = some (nI 0, μ))
  | (N, A, U, M, K, G, P, O, D, T), hW, hC => by
    obtain ⟨h1, h2, h3, h4, h5, h6, h7, h8, h9, h10⟩ := hW
    obtain ⟨c1, c2, c3, c4, c5, c6⟩ := hC
    have p1 := hP.1
    cases hM : M with
    | false =>
      right
      subst hM
      refine ⟨by unfold pOp; simp, ?_⟩
      simp (disch := omega) only [s64, p1, c4, bI_f, Option.bind_some, Sum.elim_inl, Sum.elim_inr, reduceIte, if_true, if_false, ite_true, ite_false, not_true_eq_false, not_false_eq_true, or_true, true_or, or_false, false_or, and_true, true_and, and_false, false_and, eq_self, ne_eq, Nat.reduceAdd, Nat.reduceMul, Nat.le_refl, ite_self, Nat.reduceEqDiff, Nat.reduceLeDiff, Nat.reduceLT, L_0, L_1, L_2, L_3, L_4, L_5, L_6, L_7, L_8, L_9, L_10, L_11, L_12, L_13, L_14, L_15, L_16, L_24, L_31, L_40, L_48, L_49, L_50, L_51, L_60, L_72, L_99, L_127, L_132, L_172, L_412, L_428, L_429, L_430, L_431, L_432, L_433, L_1000, nI_add, nI_mul, nI_leI, nI_ltI, nI_eq, m_cl, mInb_iff, nI_ng, ng_nI, ng_ng, nI_lt_ng, ng_lt_nI, nI_le_ng, ng_le_nI]
    | true =>
      left
      subst hM
      refine ⟨_, mUI (mUI μ 3 9 (nI N)) 3 11 (nI 0), by unfold pOp; simp only [if_true]; rfl, ?_, ?_, ?_⟩
      · simp (disch := omega) only [s64, p1, c1, c4, bI_t, Option.bind_some, Sum.elim_inl, Sum.elim_inr, reduceIte, if_true, if_false, ite_true, ite_false, not_true_eq_false, not_false_eq_true, or_true, true_or, or_false, false_or, and_true, true_and, and_false, false_and, eq_self, ne_eq, Nat.reduceAdd, Nat.reduceMul, Nat.le_refl, ite_self, Nat.reduceEqDiff, Nat.reduceLeDiff, Nat.reduceLT, L_0, L_1, L_2, L_3, L_4, L_5, L_6, L_7, L_8, L_9, L_10, L_11, L_12, L_13, L_14, L_15, L_16, L_24, L_31, L_40, L_48, L_49, L_50, L_51, L_60, L_72, L_99, L_127, L_132, L_172, L_412, L_428, L_429, L_430, L_431, L_432, L_433, L_1000, nI_add, nI_mul, nI_leI, nI_ltI, nI_eq, m_cl, mInb_iff, nI_ng, ng_nI, ng_ng, nI_lt_ng, ng_lt_nI, nI_le_ng, ng_le_nI]
      · refine ⟨?_, ?_, ?_, ?_, fun a ha => ⟨?_, ?_, ?_⟩, fun a a1 ha => ⟨?_, ?_, fun hn => ?_⟩⟩
        · simp [mI_UI]; exact c1
        · simp [mI_UI]
        · simp [mI_UI]; exact c3
        · simp [mI_UI]; rfl
        · simp [mI_UI]; exact (c5 a ha).1
        · simp [mI_UI]; exact (c5 a ha).2.1
        · simp [mI_UI]; exact (c5 a ha).2.2
        · simp [mI_UI]; exact (c6 a a1 ha).1
        · simp [mI_UI]; exact (c6 a a1 ha).2.1
        · simp [mI_UI]; exact (c6 a a1 ha).2.2 hn
      · refine (FrP_UI ?_).trans (FrP_UI ?_) <;> omega
theorem j65 (hP : PlanL (mS μ) (mP μ) 3) : ∀ {s : PS}, PW s → PCl μ s → (∃ s' ν, pCl s = some s' ∧ s65 μ 3 = some (nI 1, ν) ∧ PCl ν s' ∧ FrP μ ν) ∨ (pCl s = none ∧ s65 μ 3 = some (nI 0, μ))
  | (N, A, U, M, K, G, P, O, D, T), hW, hC => by
    obtain ⟨h1, h2, h3, h4, h5, h6, h7, h8, h9, h10⟩ := hW
    obtain ⟨c1, c2, c3, c4, c5, c6⟩ := hC
    obtain ⟨p1, p2, p3, p4, p5, p6, p7, p8, q1, q2, q3, q4, q5, q6, q7⟩ := hP
    cases hU : U with
    | true =>
      right
      subst hU
      refine ⟨by unfold pCl; simp, ?_⟩
      simp (disch := omega) only [s65, s65_10, p1, c3, bI_t, Option.bind_some, Sum.elim_inl, Sum.elim_inr, reduceIte, if_true, if_false, ite_true, ite_false, not_true_eq_false, not_false_eq_true, or_true, true_or, or_false, false_or, and_true, true_and, and_false, false_and, eq_self, ne_eq, Nat.reduceAdd, Nat.reduceMul, Nat.le_refl, ite_self, Nat.reduceEqDiff, Nat.reduceLeDiff, Nat.reduceLT, L_0, L_1, L_2, L_3, L_4, L_5, L_6, L_7, L_8, L_9, L_10, L_11, L_12, L_13, L_14, L_15, L_16, L_24, L_31, L_40, L_48, L_49, L_50, L_51, L_60, L_72, L_99, L_127, L_132, L_172, L_412, L_428, L_429, L_430, L_431, L_432, L_433, L_1000, nI_add, nI_mul, nI_leI, nI_ltI, nI_eq, m_cl, mInb_iff, nI_ng, ng_nI, ng_ng, nI_lt_ng, ng_lt_nI, nI_le_ng, ng_le_nI]
    | false =>
      subst hU
      by_cases zA : A = 0
      · right
        refine ⟨by unfold pCl; simp [zA], ?_⟩
        rw [zA] at c2
        simp (disch := omega) only [s65, s65_10, p1, c2, c3, bI_f, Option.bind_some, Sum.elim_inl, Sum.elim_inr, reduceIte, if_true, if_false, ite_true, ite_false, not_true_eq_false, not_false_eq_true, or_true, true_or, or_false, false_or, and_true, true_and, and_false, false_and, eq_self, ne_eq, Nat.reduceAdd, Nat.reduceMul, Nat.le_refl, ite_self, Nat.reduceEqDiff, Nat.reduceLeDiff, Nat.reduceLT, L_0, L_1, L_2, L_3, L_4, L_5, L_6, L_7, L_8, L_9, L_10, L_11, L_12, L_13, L_14, L_15, L_16, L_24, L_31, L_40, L_48, L_49, L_50, L_51, L_60, L_72, L_99, L_127, L_132, L_172, L_412, L_428, L_429, L_430, L_431, L_432, L_433, L_1000, nI_add, nI_mul, nI_leI, nI_ltI, nI_eq, m_cl, mInb_iff, nI_ng, ng_nI, ng_ng, nI_lt_ng, ng_lt_nI, nI_le_ng, ng_le_nI]
      · left
        have e7 := (c6 A (by omega) h2).1
        have hA8 : A < 8 := by omega
        refine ⟨_, mUI (mUI μ 3 9 (nI (P A))) 3 11 (nI 0), by unfold pCl; simp only [zA, Bool.false_eq_true, or_self, if_false]; rfl, ?_, ?_, ?_⟩
        · simp (disch := omega) only [s65, s65_10, p1, p5, q4, c2, c3, e7, hA8, show ¬ A ≤ 0 by omega, bI_f, Option.bind_some, Sum.elim_inl, Sum.elim_inr, reduceIte, if_true, if_false, ite_true, ite_false, not_true_eq_false, not_false_eq_true, or_true, true_or, or_false, false_or, and_true, true_and, and_false, false_and, eq_self, ne_eq, Nat.reduceAdd, Nat.reduceMul, Nat.le_refl, ite_self, Nat.reduceEqDiff, Nat.reduceLeDiff, Nat.reduceLT, L_0, L_1, L_2, L_3, L_4, L_5, L_6, L_7, L_8, L_9, L_10, L_11, L_12, L_13, L_14, L_15, L_16, L_24, L_31, L_40, L_48, L_49, L_50, L_51, L_60, L_72, L_99, L_127, L_132, L_172, L_412, L_428, L_429, L_430, L_431, L_432, L_433, L_1000, nI_add, nI_mul, nI_leI, nI_ltI, nI_eq, m_cl, mInb_iff, nI_ng, ng_nI, ng_ng, nI_lt_ng, ng_lt_nI, nI_le_ng, ng_le_nI]
        · refine ⟨?_, ?_, ?_, ?_, fun a ha => ⟨?_, ?_, ?_⟩, fun a a1 ha => ⟨?_, ?_, fun hn => ?_⟩⟩
          · simp [mI_UI]; exact c1
          · simp [mI_UI]
          · simp [mI_UI]; exact c3
          · simp [mI_UI]; rfl
          · simp [mI_UI]; exact (c5 a ha).1
          · simp [mI_UI]; exact (c5 a ha).2.1
          · simp [mI_UI]; exact (c5 a ha).2.2
          · simp [mI_UI]; exact (c6 a a1 ha).1
          · simp [mI_UI]; exact (c6 a a1 ha).2.1
          · simp [mI_UI]; exact (c6 a a1 ha).2.2 hn
        · refine (FrP_UI ?_).trans (FrP_UI ?_) <;> omega
end PC
