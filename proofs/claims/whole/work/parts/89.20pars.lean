/-! the text read by the reference; fault -/
def pan (P : Nat → Nat) (a : Nat) : Nat → Nat
  | 0 => a
  | k + 1 => P (pan P a k)
theorem pan_succ {P : Nat → Nat} {a : Nat} : ∀ k, pan P a (k + 1) = pan P (P a) k
  | 0 => rfl
  | k + 1 => by show P (pan P a (k + 1)) = P (pan P (P a) k); rw [pan_succ k]
section RQ
variable {μ ν : mM} {c n : Nat} {tx : Nat → Nat}
theorem pan_D {N A : Nat} {U M : Bool} {K G P O D T : Nat → Nat} (h : PW (N, A, U, M, K, G, P, O, D, T)) : ∀ k, k ≤ D A → pan P A k ≤ N ∧ D (pan P A k) = D A - k
  | 0, _ => ⟨h.2.1, rfl⟩
  | k + 1, hk => by
    obtain ⟨a1, a2⟩ := pan_D h k (by omega)
    obtain ⟨h1, h2, h3, h4, h5, h6⟩ := h
    have z : ¬ pan P A k = 0 := fun z => by rw [z, h4] at a2; omega
    obtain ⟨q1, q2, q3, -⟩ := h5 (pan P A k) (by omega) a1
    show P (pan P A k) ≤ N ∧ D (P (pan P A k)) = D A - (k + 1)
    exact ⟨by omega, by omega⟩
theorem D_0 {N A : Nat} {U M : Bool} {K G P O D T : Nat → Nat} (h : PW (N, A, U, M, K, G, P, O, D, T)) : D A ≤ 4 ∧ (D A = 0 ↔ A = 0) := by
  obtain ⟨h1, h2, h3, h4, h5, h6⟩ := h
  by_cases z : A = 0
  · rw [z, h4]; exact ⟨by omega, by omega⟩
  · obtain ⟨q1, q2, q3, q4, -⟩ := h5 A (by omega) h2
    exact ⟨q4, ⟨fun y => by omega, fun y => absurd y z⟩⟩
/-- the reference's rows for it -/
def PRf (ν : mM) : PS → Prop
  | (N, A, U, M, K, G, P, O, D, T) => mI ν 200 11 = nI N ∧ (∀ k, 1 ≤ k → k ≤ N → mI ν 207 k = nI (K k) ∧ mI ν 209 k = nI (P k) ∧ mI ν 210 k = nI (O k) ∧ (¬ (U = true ∧ k = N) → mI ν 208 k = nI (G k))) ∧ ∀ k, k ≤ D A → mI ν 211 (D A - k) = nI (pan P A k) ∧ mI ν 212 (D A - k) = nI (T (pan P A k))
def FrQ (μ ν : mM) : Prop := ν.2 = μ.2 ∧ ∀ q j, ¬ ((q = 200 ∧ j = 11) ∨ (207 ≤ q ∧ q ≤ 212)) → mI ν q j = mI μ q j
theorem FrQ.refl (μ : mM) : FrQ μ μ := ⟨rfl, fun _ _ _ => rfl⟩
theorem FrQ.trans {μ ν ρ : mM} (h1 : FrQ μ ν) (h2 : FrQ ν ρ) : FrQ μ ρ := ⟨h2.1.trans h1.1, fun q j h => (h2.2 q j h).trans (h1.2 q j h)⟩
theorem FrQ_UI {q j : Nat} {x : Int32} (h : (q = 200 ∧ j = 11) ∨ (207 ≤ q ∧ q ≤ 212)) : FrQ μ (mUI μ q j x) := ⟨rfl, fun a b hn => by
  rw [mI_UI, if_neg (fun z => hn (by rw [z.1, z.2]; exact h))]⟩
theorem RefL.fq (h : RefL (mS μ) (mP μ)) (hf : ν.2 = μ.2) : RefL (mS ν) (mP ν) := by
  have e1 : mS ν = mS μ := by show ν.2.2.2.2.1 = _; rw [hf]
  have e2 : mP ν = mP μ := by show ν.2.2.2.1 = _; rw [hf]
  rw [e1, e2]; exact h
def TxR (ν : mM) (n : Nat) (tx : Nat → Nat) : Prop := mI ν 200 6 = nI n ∧ ∀ j, j < n → mI ν 206 j = nI (tx j)
theorem TxR.fr (h : TxR μ n tx) (hf : FrQ μ ν) : TxR ν n tx := ⟨by rw [hf.2 200 6 (by omega)]; exact h.1, fun j hj => by rw [hf.2 206 j (by omega)]; exact h.2 j hj⟩
/-- blanks passed over -/
def skp (tx : Nat → Nat) (n i : Nat) : Nat := ff (fun j => !(tx j == 32)) i (n - i)
theorem skp_le {i : Nat} (h : i ≤ n) : i ≤ skp tx n i ∧ skp tx n i ≤ n ∧ (skp tx n i = n ∨ ¬ tx (skp tx n i) = 32) := by
  unfold skp
  rcases ff_spec (fun j => !(tx j == 32)) (n - i) i with ⟨h1, h2, h3, -⟩ | ⟨h1, -⟩
  · exact ⟨h1, by omega, Or.inr (by simpa using h3)⟩
  · exact ⟨by omega, by omega, Or.inl (by omega)⟩
theorem k175 (hR : RefL (mS ν) (mP ν)) (hT : TxR ν n tx) (hn : n ≤ 60) (ht : ∀ j, j < n → tx j ≤ 127) {i : Nat} (hi : i ≤ n) : s175 ν 200 (nI i) = some (nI (skp tx n i)) := by
  obtain ⟨o, e, h⟩ := mLoop_find (b := s175L2 ν 200) (fun k => nI (i + k)) (n - i) (fun k => ¬ tx (i + k) = 32) (fun k => .inl (nI (i + k))) (.inl (nI n)) (fun k hk hp => by
    have g1 : ¬ mI ν 200 6 ≤ nI (i + k) := by rw [hT.1, nI_leI (by omega) (by omega)]; omega
    have g3 : mI ν (mP ν 200 5) (Int32.toNatClampNeg (nI (i + k))) = nI (tx (i + k)) := by rw [RefL.r5 hR, m_cl (by omega)]; exact hT.2 _ (by omega)
    have := ht (i + k) (by omega)
    unfold s175L2
    refine iteT (by rw [RefL.s hR]) (iteF g1 (ckA (q' := 206) (n := 60) (j := i + k) (RefL.r5 hR) (RefL.a5 hR) rfl (by omega) (by omega) (iteT ?_ rfl)))
    rw [g3, L_32, nI_eq (by omega) (by omega)]; exact hp) (fun k hk hp => by
    have hp' : tx (i + k) = 32 := Classical.byContradiction hp
    have g1 : ¬ mI ν 200 6 ≤ nI (i + k) := by rw [hT.1, nI_leI (by omega) (by omega)]; omega
    have g3 : mI ν (mP ν 200 5) (Int32.toNatClampNeg (nI (i + k))) = nI (tx (i + k)) := by rw [RefL.r5 hR, m_cl (by omega)]; exact hT.2 _ (by omega)
    unfold s175L2
    refine iteT (by rw [RefL.s hR]) (iteF g1 (ckA (q' := 206) (n := 60) (j := i + k) (RefL.r5 hR) (RefL.a5 hR) rfl (by omega) (by omega) (iteF ?_ ?_)))
    · rw [g3, hp']; exact fun z => z rfl
    · show some (Sum.inl (nI (i + k) + 1)) = _
      rw [show nI (i + k) + 1 = nI (i + k + 1) from nI_add _ 1]; rfl) (by
    unfold s175L2
    refine iteT (by rw [RefL.s hR]) (iteT ?_ ?_)
    · rw [hT.1, nI_leI (by omega) (by omega)]; omega
    · rw [show i + (n - i) = n by omega]) (n := 1000) (by omega)
  have ev : o = .inl (nI (skp tx n i)) := by
    rcases h with ⟨k, hk, h1, h2, h3⟩ | ⟨h1, h2⟩
    · have : skp tx n i = i + k := ff_some (by simpa using h1) (by omega) (by omega) (fun j a b => by
        have := h2 (j - i) (by omega)
        rw [show i + (j - i) = j by omega] at this
        simpa using this)
      rw [h3, this]
    · have : skp tx n i = i + (n - i) := ff_none (fun j a b => by
        have := h1 (j - i) (by omega)
        rw [show i + (j - i) = j by omega] at this
        simpa using this)
      rw [h2, this, show i + (n - i) = n by omega]
  unfold s175
  refine bindS e ?_
  rw [ev]; rfl
/-- blanks change nothing -/
theorem pRun_skp {s : PS} : ∀ (k : Nat) {i : Nat}, i + k = n → pRun tx k i s = pRun tx (n - skp tx n i) (skp tx n i) s
  | 0, i, h => by
    have : skp tx n i = i := by unfold skp; rw [show n - i = 0 by omega]; rfl
    rw [this, show n - i = 0 by omega]
  | k + 1, i, h => by
    unfold skp
    rw [show n - i = k + 1 by omega]
    unfold ff
    by_cases z : tx i = 32
    · rw [if_neg (by simp [z])]
      have : pRun tx (k + 1) i s = pRun tx k (i + 1) s := by
        show (match pStep (tx i) s with | none => Sum.inl i | some s' => pRun tx k (i + 1) s') = _
        rw [z]; rfl
      rw [this, pRun_skp k (i := i + 1) (by omega)]
      unfold skp
      rw [show n - (i + 1) = k by omega]
    · rw [if_pos (by simp [z]), show n - i = k + 1 by omega]
/-- takes -/
theorem k176n (hR : RefL (mS ν) (mP ν)) : ∀ {s : PS}, PW s → PRf ν s → s176 ν 200 (-nI 10) (nI (s.2.2.2.2.2.2.2.2.1 s.2.1)) = some (nI 0, ν)
  | (N, A, U, M, K, G, P, O, D, T), hW, hC => by
    obtain ⟨d4, d0⟩ := D_0 hW
    obtain ⟨h1, h2, h3, h4, h5, h6, h7, h8, h9, h10⟩ := hW
    obtain ⟨c1, c2, c3⟩ := hC
    have e1 := (c3 0 (by omega)).1
    rw [Nat.sub_zero] at e1
    have g3 : mI ν (mP ν 200 12) (Int32.toNatClampNeg (nI (D A))) = nI A := by rw [RefL.r12 hR, m_cl (by omega)]; exact e1
    show s176 ν 200 (-nI 10) (nI (D A)) = _
    unfold s176
    refine iteT (by rw [RefL.s hR]) (ckA (q' := 211) (n := 6) (j := D A) (RefL.r12 hR) (RefL.a12 hR) rfl (by omega) (by omega) ?_)
    have fin : ∀ x y, s176_13 200 (-nI 10) (nI (D A)) ν x y = some (nI 0, ν) := fun x y => by
      unfold s176_13
      exact iteT rfl rfl
    by_cases z : D A = 0
    · refine iteF (by rw [z]; decide) (fin _ _)
    · refine iteT (by rw [L_0, nI_eq (by omega) (by omega)]; exact z) (ckA (q' := 207) (n := 8) (j := A) (RefL.r7 hR) (RefL.a7 hR) g3 (by omega) (by omega) (fin _ _))
theorem k176 {k : Nat} (hk : k ≤ 3) (hR : RefL (mS ν) (mP ν)) : ∀ {s : PS}, PW s → s.2.2.1 = false → PRf ν s → (∃ s' ν', pRt k s = some s' ∧ s176 ν 200 (nI k) (nI (s.2.2.2.2.2.2.2.2.1 s.2.1)) = some (nI 1, ν') ∧ PRf ν' s' ∧ FrQ ν ν') ∨ (pRt k s = none ∧ s176 ν 200 (nI k) (nI (s.2.2.2.2.2.2.2.2.1 s.2.1)) = some (nI 0, ν))
  | (N, A, U, M, K, G, P, O, D, T), hW, hU, hC => by
    simp only at hU
    subst hU
    obtain ⟨d4, d0⟩ := D_0 hW
    have pd := pan_D hW
    obtain ⟨h1, h2, h3, h4, h5, h6, h7, h8, h9, h10⟩ := hW
    obtain ⟨c1, c2, c3⟩ := hC
    obtain ⟨e1, e2⟩ := c3 0 (by omega)
    rw [Nat.sub_zero] at e1 e2
    have e2' : mI ν 212 (D A) = nI (T A) := e2
    have hA8 : A < 8 := by omega
    have hKA : K A ≤ 4 := by
      by_cases z : A = 0
      · rw [z, h3]; omega
      · have := (h5 A (by omega) h2).1; omega
    have hpk := portsK_le (K A)
    have hTA := h6 A h2
    have g3 : mI ν (mP ν 200 12) (Int32.toNatClampNeg (nI (D A))) = nI A := by rw [RefL.r12 hR, m_cl (by omega)]; exact e1
    have g4 : mI ν (mP ν 200 13) (Int32.toNatClampNeg (nI (D A))) = nI (T A) := by rw [RefL.r13 hR, m_cl (by omega)]; exact e2'
    show (∃ s' ν', pRt k (N, A, false, M, K, G, P, O, D, T) = some s' ∧ s176 ν 200 (nI k) (nI (D A)) = some (nI 1, ν') ∧ PRf ν' s' ∧ FrQ ν ν') ∨ (pRt k (N, A, false, M, K, G, P, O, D, T) = none ∧ s176 ν 200 (nI k) (nI (D A)) = some (nI 0, ν))
    have red : ∀ r, s176_13 200 (nI k) (nI (D A)) ν (nI A) (nI (K A)) = r → s176 ν 200 (nI k) (nI (D A)) = r := fun r hr => by
      unfold s176
      refine iteT (by rw [RefL.s hR]) (ckA (q' := 211) (n := 6) (j := D A) (RefL.r12 hR) (RefL.a12 hR) rfl (by omega) (by omega) ?_)
      rw [g3]
      by_cases z : D A = 0
      · refine iteF (by rw [z]; decide) ?_
        rw [show (4 : Int32) = nI (K A) by rw [d0.mp z, h3]; rfl]
        exact hr
      · refine iteT (by rw [L_0, nI_eq (by omega) (by omega)]; exact z) (ckA (q' := 207) (n := 8) (j := A) (RefL.r7 hR) (RefL.a7 hR) rfl (by omega) (by omega) ?_)
        rw [RefL.r7 hR, m_cl (by omega), (c2 A (by have := d0.mpr; omega) h2).1]
        exact hr
    have k0 : ¬ nI k = (-10 : Int32) := fun z => (nI_ng (k := 10) (by omega) (by omega) (by omega)).mp z
    have head : ∀ r, (if nI (T A) = nI (portsK (K A)) then s176_31 200 (nI k) (nI (D A)) ν else if nI N = 7 then s176_31 200 (nI k) (nI (D A)) ν else if ¬ nI (D A) = 4 then ((some (mUI ν 200 11 ((nI N) + 1))).bind fun μ8 => if (mS μ8 (mP μ8 200 7)).1 = 10 ∧ mInb (mI μ8 200 11) (mS μ8 (mP μ8 200 7)).2 then (some (mUI μ8 (mP μ8 200 7) (Int32.toNatClampNeg (mI μ8 200 11)) (nI k))).bind fun μ10 => if (mS μ10 (mP μ10 200 9)).1 = 10 ∧ mInb (mI μ10 200 11) (mS μ10 (mP μ10 200 9)).2 then (some (mUI μ10 (mP μ10 200 9) (Int32.toNatClampNeg (mI μ10 200 11)) (nI A))).bind fun μ12 => if (mS μ12 (mP μ12 200 13)).1 = 10 ∧ mInb (nI (D A)) (mS μ12 (mP μ12 200 13)).2 then if (mS μ12 (mP μ12 200 10)).1 = 10 ∧ mInb (mI μ12 200 11) (mS μ12 (mP μ12 200 10)).2 then (some (mUI μ12 (mP μ12 200 10) (Int32.toNatClampNeg (mI μ12 200 11)) (mI μ12 (mP μ12 200 13) (Int32.toNatClampNeg (nI (D A)))))).bind fun μ15 => if (mS μ15 (mP μ15 200 13)).1 = 10 ∧ mInb (nI (D A)) (mS μ15 (mP μ15 200 13)).2 then (some (mUI μ15 (mP μ15 200 13) (Int32.toNatClampNeg (nI (D A))) ((mI μ15 (mP μ15 200 13) (Int32.toNatClampNeg (nI (D A)))) + 1))).bind fun μ17 => some (1, μ17) else none else none else none else none else none) else s176_31 200 (nI k) (nI (D A)) ν) = r → s176_13 200 (nI k) (nI (D A)) ν (nI A) (nI (K A)) = r := fun r hr => by
      unfold s176_13
      refine iteF k0 (iteT (by rw [RefL.s hR]) (ckA (q' := 212) (n := 6) (j := D A) (RefL.r13 hR) (RefL.a13 hR) rfl (by omega) (by omega) (bindS (k146 (by omega)) ?_)))
      rw [g4, c1]
      exact hr
    by_cases z1 : portsK (K A) ≤ T A
    · right
      refine ⟨by unfold pRt; simp only [if_pos (show (false = true ∨ N = 7 ∨ portsK (K A) ≤ T A ∨ 4 ≤ D A) from Or.inr (Or.inr (Or.inl z1)))], red _ (head _ (iteT (by rw [show T A = portsK (K A) by omega]) rfl))⟩
    · have y1 : ¬ nI (T A) = nI (portsK (K A)) := by rw [nI_eq (by omega) (by omega)]; omega
      by_cases z2 : N = 7
      · right
        exact ⟨by unfold pRt; simp only [if_pos (show (false = true ∨ N = 7 ∨ portsK (K A) ≤ T A ∨ 4 ≤ D A) from Or.inr (Or.inl z2))], red _ (head _ (iteF y1 (iteT (by rw [z2]; rfl) rfl)))⟩
      · have y2 : ¬ nI N = 7 := by rw [L_7, nI_eq (by omega) (by omega)]; exact z2
        by_cases z3 : 4 ≤ D A
        · right
          exact ⟨by unfold pRt; simp only [if_pos (show (false = true ∨ N = 7 ∨ portsK (K A) ≤ T A ∨ 4 ≤ D A) from Or.inr (Or.inr (Or.inr z3)))], red _ (head _ (iteF y1 (iteF y2 (iteF (by rw [show D A = 4 by omega]; decide) rfl))))⟩
        · left
          have y3 : ¬ nI (D A) = 4 := by rw [L_4, nI_eq (by omega) (by omega)]; omega
          have hN8 : N + 1 < 8 := by omega
          have panN : ∀ j, j ≤ D A → pan (u1 P (N + 1) A) A j = pan P A j := by
            intro j
            induction j with
            | zero => intro _; rfl
            | succ j ih =>
              intro hj
              show u1 P (N + 1) A (pan (u1 P (N + 1) A) A j) = P (pan P A j)
              rw [ih (by omega)]
              have := (pd j (by omega)).1
              unfold u1; rw [if_neg (by omega)]
          refine ⟨_, mUI (mUI (mUI (mUI (mUI ν 200 11 (nI (N + 1))) 207 (N + 1) (nI k)) 209 (N + 1) (nI A)) 210 (N + 1) (nI (T A))) 212 (D A) (nI (T A + 1)), by unfold pRt; simp only [if_neg (show ¬ (false = true ∨ N = 7 ∨ portsK (K A) ≤ T A ∨ 4 ≤ D A) from fun y => by rcases y with y | y | y | y; cases y; exact z2 y; exact z1 y; exact z3 y)]; rfl, red _ (head _ (iteF y1 (iteF y2 (iteT y3 ?_)))), ?_, ?_⟩
          · refine bindS (v := mUI ν 200 11 (nI (N + 1))) (by rw [show nI N + 1 = nI (N + 1) from nI_add _ 1]) ?_
            refine stA (q' := 207) (n := 8) (j := N + 1) (x' := nI k) (RefL.r7 hR) (RefL.a7 hR) (by simp [mI_UI]) hN8 (by omega) rfl ?_
            refine stA (q' := 209) (n := 8) (j := N + 1) (x' := nI A) (RefL.r9 hR) (RefL.a9 hR) (by simp [mI_UI]) hN8 (by omega) rfl ?_
            refine ckA (q' := 212) (n := 6) (j := D A) (RefL.r13 hR) (RefL.a13 hR) rfl (by omega) (by omega) ?_
            refine stA (q' := 210) (n := 8) (j := N + 1) (x' := nI (T A)) (RefL.r10 hR) (RefL.a10 hR) (by simp [mI_UI]) hN8 (by omega) (by
              rw [m_cl (by omega), show mP (mUI (mUI (mUI ν 200 11 (nI (N + 1))) 207 (N + 1) (nI k)) 209 (N + 1) (nI A)) 200 13 = 212 from RefL.r13 hR]
              simp [mI_UI]; exact e2') ?_
            refine stA (q' := 212) (n := 6) (j := D A) (x' := nI (T A + 1)) (RefL.r13 hR) (RefL.a13 hR) rfl (by omega) (by omega) (by
              rw [m_cl (by omega), show mP (mUI (mUI (mUI (mUI ν 200 11 (nI (N + 1))) 207 (N + 1) (nI k)) 209 (N + 1) (nI A)) 210 (N + 1) (nI (T A))) 200 13 = 212 from RefL.r13 hR]
              rw [show mI (mUI (mUI (mUI (mUI ν 200 11 (nI (N + 1))) 207 (N + 1) (nI k)) 209 (N + 1) (nI A)) 210 (N + 1) (nI (T A))) 212 (D A) = nI (T A) by simp [mI_UI]; exact e2']
              exact nI_add _ 1) ?_
            rfl
          · have eD : u1 D (N + 1) (D A + 1) A = D A := by unfold u1; rw [if_neg (by omega)]
            refine ⟨by simp [mI_UI], fun a a1 ha => ⟨?_, ?_, ?_, fun hn => ?_⟩, fun j hj => ⟨?_, ?_⟩⟩
            · by_cases y : a = N + 1
              · simp [mI_UI, y, u1]
              · simp [mI_UI, y, u1]; exact (c2 a a1 (by omega)).1
            · by_cases y : a = N + 1
              · simp [mI_UI, y, u1]
              · simp [mI_UI, y, u1]; exact (c2 a a1 (by omega)).2.1
            · by_cases y : a = N + 1
              · simp [mI_UI, y, u1]
              · simp [mI_UI, y, u1]; exact (c2 a a1 (by omega)).2.2.1
            · have y : ¬ a = N + 1 := fun y => hn ⟨rfl, y⟩
              simp [mI_UI]; exact (c2 a a1 (by omega)).2.2.2 (fun w => by cases w.1)
            · rw [eD] at hj ⊢
              rw [panN j hj]
              simp [mI_UI]; exact (c3 j hj).1
            · rw [eD] at hj ⊢
              rw [panN j hj]
              obtain ⟨b1, b2⟩ := pd j hj
              by_cases y : j = 0
              · subst y
                show mI _ 212 (D A - 0) = nI (u1 (u1 T (N + 1) 0) A (T A + 1) A)
                rw [Nat.sub_zero]
                simp [mI_UI, u1]
              · have w : ¬ pan P A j = A := fun w => by rw [w] at b2; omega
                have : u1 (u1 T (N + 1) 0) A (T A + 1) (pan P A j) = T (pan P A j) := by
                  unfold u1; rw [if_neg w, if_neg (by omega)]
                rw [this, mI_UI, if_neg (by omega)]
                simp [mI_UI]; exact (c3 j hj).2
          · refine ((((FrQ_UI ?_).trans (FrQ_UI ?_)).trans (FrQ_UI ?_)).trans (FrQ_UI ?_)).trans (FrQ_UI ?_) <;> omega
end RQ
