/-! the reference's loop over the text; fault -/
abbrev pDA (s : PS) : Nat := s.2.2.2.2.2.2.2.2.1 s.2.1
section RL
variable {μ ν : mM} {c n : Nat} {tx : Nat → Nat}
theorem pRt_eq {k : Nat} : ∀ {s s' : PS}, PW s → pRt k s = some s' → pDA s' = pDA s ∧ s'.2.2.1 = true ∧ s'.2.2.2.1 = false
  | (N, A, U, M, K, G, P, O, D, T), s', hW, e => by
    have h2 := hW.2.1
    unfold pRt at e
    by_cases z : U = true ∨ N = 7 ∨ portsK (K A) ≤ T A ∨ 4 ≤ D A
    · simp only [z, if_true] at e; cases e
    · simp only [z, if_false] at e
      cases e
      refine ⟨?_, rfl, rfl⟩
      show u1 D (N + 1) (D A + 1) A = D A
      unfold u1; rw [if_neg (by omega)]
theorem k174 (hc : c ≤ 127) : s174 ν (nI c) = some (if kdOf c = 4 then -nI 10 else nI (kdOf c)) := by
  have ne : ∀ m, m < 2 ^ 31 → ¬ c = m → ¬ nI c = nI m := fun m hm h z => h ((nI_eq (by omega) hm).mp z)
  unfold s174
  by_cases c1 : c = 104
  · subst c1; exact iteF (by decide) rfl
  refine iteT (ne 104 (by omega) c1) ?_
  by_cases c2 : c = 115
  · subst c2; exact iteF (by decide) rfl
  refine iteT (ne 115 (by omega) c2) ?_
  by_cases c3 : c = 100
  · subst c3; exact iteF (by decide) rfl
  refine iteT (ne 100 (by omega) c3) ?_
  by_cases c4 : c = 110
  · subst c4; exact iteF (by decide) rfl
  refine iteT (ne 110 (by omega) c4) ?_
  have : kdOf c = 4 := by unfold kdOf; rw [if_neg c1, if_neg c2, if_neg c3, if_neg c4]
  rw [if_pos this]; rfl
/-- where a digit is due, nothing else is taken -/
theorem pStep_due : ∀ {s : PS}, s.2.2.1 = true → s.2.2.2.1 = false → ¬ c = 32 → ¬ (49 ≤ c ∧ c ≤ 51) → pStep c s = none
  | (N, A, U, M, K, G, P, O, D, T), hU, hM, c1, c2 => by
    simp only at hU hM
    subst hU hM
    unfold pStep
    rw [if_neg c1]
    by_cases c3 : c = 40
    · rw [if_pos c3]; rfl
    rw [if_neg c3]
    by_cases c4 : c = 41
    · rw [if_pos c4]; unfold pCl; simp
    rw [if_neg c4, if_neg c2]
    by_cases c5 : kdOf c = 4
    · rw [if_pos c5]
    · rw [if_neg c5]; unfold pRt; simp
theorem pStep_dig : ∀ {s : PS}, PW s → s.2.2.1 = true → (49 ≤ c ∧ c ≤ 51) → PRf ν s → ∃ s', pStep c s = some s' ∧ s'.2.2.1 = false ∧ s'.2.2.2.1 = true ∧ pDA s' = pDA s ∧ ∃ N, N < 8 ∧ mI ν 200 11 = nI N ∧ PRf (mUI ν 208 N (nI (c - 48))) s'
  | (N, A, U, M, K, G, P, O, D, T), hW, hU, c2, hC => by
    simp only at hU
    subst hU
    obtain ⟨h1, -⟩ := hW
    obtain ⟨d1, d2, d3⟩ := hC
    refine ⟨(N, A, false, true, K, u1 G N (c - 48), P, O, D, T), ?_, rfl, rfl, rfl, N, by omega, d1, ?_⟩
    · unfold pStep
      rw [if_neg (by omega), if_neg (by omega), if_neg (by omega), if_pos c2]; rfl
    · refine ⟨by rw [mI_UI, if_neg (by omega)]; exact d1, fun k k1 k2 => ⟨?_, ?_, ?_, fun _ => ?_⟩, fun k hk => ⟨?_, ?_⟩⟩
      · rw [mI_UI, if_neg (by omega)]; exact (d2 k k1 k2).1
      · rw [mI_UI, if_neg (by omega)]; exact (d2 k k1 k2).2.1
      · rw [mI_UI, if_neg (by omega)]; exact (d2 k k1 k2).2.2.1
      · rw [mI_UI]
        unfold u1
        by_cases y : k = N
        · rw [if_pos ⟨rfl, y⟩, if_pos y]
        · rw [if_neg (fun w => y w.2), if_neg y]; exact (d2 k k1 k2).2.2.2 (fun w => y w.2)
      · rw [mI_UI, if_neg (by omega)]; exact (d3 k hk).1
      · rw [mI_UI, if_neg (by omega)]; exact (d3 k hk).2
theorem pStep_opn : ∀ {s : PS}, PW s → s.2.2.1 = false → s.2.2.2.1 = true → PRf ν s → ∃ s' N, pStep 40 s = some s' ∧ s'.2.2.1 = false ∧ s'.2.2.2.1 = false ∧ pDA s' = pDA s + 1 ∧ pDA s + 1 ≤ 4 ∧ mI ν 200 11 = nI N ∧ PRf (mUI (mUI ν 211 (pDA s + 1) (nI N)) 212 (pDA s + 1) (nI 0)) s'
  | (N, A, U, M, K, G, P, O, D, T), hW, hU, hM, hC => by
    simp only at hU hM
    subst hU hM
    obtain ⟨h1, h2, h3, h4, h5, h6, h7, h8, h9, h10⟩ := hW
    obtain ⟨d1, d2, d3⟩ := hC
    obtain ⟨n1, n2, n3⟩ := h9 (Or.inr rfl)
    obtain ⟨q1, q2, q3, q4, q5⟩ := h5 N n1 (Nat.le_refl _)
    rw [n2] at q3
    refine ⟨(N, N, false, false, K, G, P, O, D, T), N, rfl, rfl, rfl, q3, by show D A + 1 ≤ 4; omega, d1, ?_⟩
    show PRf (mUI (mUI ν 211 (D A + 1) (nI N)) 212 (D A + 1) (nI 0)) (N, N, false, false, K, G, P, O, D, T)
    refine ⟨by rw [mI_UI, if_neg (by omega), mI_UI, if_neg (by omega)]; exact d1, fun k k1 k2 => ?_, fun k hk => ?_⟩
    · rw [mI_UI, if_neg (by omega), mI_UI, if_neg (by omega), mI_UI, if_neg (by omega), mI_UI, if_neg (by omega), mI_UI, if_neg (by omega), mI_UI, if_neg (by omega), mI_UI, if_neg (by omega), mI_UI, if_neg (by omega)]
      exact d2 k k1 k2
    · rw [q3] at hk ⊢
      by_cases y : k = 0
      · subst y
        rw [Nat.sub_zero]
        refine ⟨by rw [mI_UI, if_neg (by omega), mI_UI, if_pos ⟨rfl, rfl⟩]; rfl, ?_⟩
        show _ = nI (T N)
        rw [mI_UI, if_pos ⟨rfl, rfl⟩, n3]
      · obtain ⟨k, rfl⟩ : ∃ j, k = j + 1 := ⟨k - 1, by omega⟩
        rw [pan_succ, n2, show D A + 1 - (k + 1) = D A - k by omega]
        have := d3 k (by omega)
        refine ⟨?_, ?_⟩
        · rw [mI_UI, if_neg (by omega), mI_UI, if_neg (by omega)]; exact this.1
        · rw [mI_UI, if_neg (by omega), mI_UI, if_neg (by omega)]; exact this.2
theorem pStep_cls : ∀ {s : PS}, PW s → s.2.2.1 = false → ¬ pDA s = 0 → PRf ν s → ∃ s', pStep 41 s = some s' ∧ s'.2.2.1 = false ∧ s'.2.2.2.1 = false ∧ pDA s' + 1 = pDA s ∧ PRf ν s'
  | (N, A, U, M, K, G, P, O, D, T), hW, hU, hD, hC => by
    simp only at hU
    subst hU
    obtain ⟨d4, d0⟩ := D_0 hW
    obtain ⟨h1, h2, h3, h4, h5, h6, h7, h8, h9, h10⟩ := hW
    obtain ⟨d1, d2, d3⟩ := hC
    have zA : ¬ A = 0 := fun z => hD (d0.mpr z)
    obtain ⟨q1, q2, q3, q4, q5⟩ := h5 A (by omega) h2
    refine ⟨(N, P A, false, false, K, G, P, O, D, T), ?_, rfl, rfl, q3.symm, d1, d2, fun k hk => ?_⟩
    · unfold pStep pCl
      simp [zA]
    · have := d3 (k + 1) (by omega)
      rw [pan_succ, show D A - (k + 1) = D (P A) - k by omega] at this
      exact this
theorem k177L (hn : n ≤ 60) (ht : ∀ j, j < n → tx j ≤ 127) : ∀ (m : Nat) {i fuel : Nat} {s : PS} {ν : mM}, i ≤ n → n - i ≤ m → m < fuel → (i = n ∨ ¬ tx i = 32) → RefL (mS ν) (mP ν) → TxR ν n tx → PW s → s.2.2.1 = false → PRf ν s → ∃ o ν', mLoop (s177L21 200) fuel (nI (pDA s), bI s.2.2.2.1, nI i, ν) = some o ∧ FrQ ν ν' ∧ (∀ j, pRun tx (n - i) i s = .inl j → o = .inr (nI j, ν')) ∧ ∀ s', pRun tx (n - i) i s = .inr s' → (s'.2.2.1 = true → o = .inr (nI n, ν')) ∧ (s'.2.2.1 = false → o = .inl (nI (pDA s'), ν') ∧ PRf ν' s')
  | m, i, 0, s, ν, hi, hm, hf, hx, hR, hT, hW, hU, hC => by omega
  | m, i, fuel + 1, s, ν, hi, hm, hf, hx, hR, hT, hW, hU, hC => by
    by_cases hin : i = n
    · subst hin
      have e : s177L21 200 (nI (pDA s), bI s.2.2.2.1, nI i, ν) = some (.inr (.inl (nI (pDA s), ν))) := by
        unfold s177L21
        refine iteT (by rw [RefL.s hR]) (iteT ?_ rfl)
        show mI ν 200 6 ≤ nI i
        rw [hT.1, nI_leI (by omega) (by omega)]; omega
      refine ⟨_, ν, by simp only [mLoop, e]; rfl, FrQ.refl _, fun j h => ?_, fun s' h => ?_⟩
      · rw [Nat.sub_self] at h; cases h
      · rw [Nat.sub_self] at h; cases h
        exact ⟨fun z => (by rw [hU] at z; cases z), fun _ => ⟨rfl, hC⟩⟩
    · have h32 : ¬ tx i = 32 := hx.resolve_left hin
      have hc := ht i (by omega)
      have d4 : pDA s ≤ 4 := by
        obtain ⟨N, A, U, M, K, G, P, O, D, T⟩ := s
        exact (D_0 hW).1
      have g1 : ¬ mI ν 200 6 ≤ nI i := by rw [hT.1, nI_leI (by omega) (by omega)]; omega
      have g3 : mI ν (mP ν 200 5) (Int32.toNatClampNeg (nI i)) = nI (tx i) := by rw [RefL.r5 hR, m_cl (by omega)]; exact hT.2 _ (by omega)
      have ne : ∀ m, m < 2 ^ 31 → ¬ tx i = m → ¬ nI (tx i) = nI m := fun m hm h z => h ((nI_eq (by omega) hm).mp z)
      have hrun : ∀ {s1 : PS}, pStep (tx i) s = some s1 → pRun tx (n - i) i s = pRun tx (n - (i + 1)) (i + 1) s1 := fun {s1} h => by
        rw [show n - i = (n - (i + 1)) + 1 by omega]
        show (match pStep (tx i) s with | none => Sum.inl i | some s' => pRun tx (n - (i + 1)) (i + 1) s') = _
        rw [h]
      have hnone : pStep (tx i) s = none → pRun tx (n - i) i s = .inl i := fun h => by
        rw [show n - i = (n - (i + 1)) + 1 by omega]
        show (match pStep (tx i) s with | none => Sum.inl i | some s' => pRun tx (n - (i + 1)) (i + 1) s') = _
        rw [h]
      -- a fault here
      have fault : ∀ {ν' : mM}, s177L21 200 (nI (pDA s), bI s.2.2.2.1, nI i, ν) = some (.inr (.inr (nI i, ν'))) → FrQ ν ν' → pStep (tx i) s = none → ∃ o ν', mLoop (s177L21 200) (fuel + 1) (nI (pDA s), bI s.2.2.2.1, nI i, ν) = some o ∧ FrQ ν ν' ∧ (∀ j, pRun tx (n - i) i s = .inl j → o = .inr (nI j, ν')) ∧ ∀ s', pRun tx (n - i) i s = .inr s' → (s'.2.2.1 = true → o = .inr (nI n, ν')) ∧ (s'.2.2.1 = false → o = .inl (nI (pDA s'), ν') ∧ PRf ν' s') := fun {ν'} e hf h => by
        refine ⟨_, ν', by simp only [mLoop, e]; rfl, hf, fun j h2 => ?_, fun s' h2 => ?_⟩
        · rw [hnone h] at h2; cases h2; rfl
        · rw [hnone h] at h2; cases h2
      -- on from the next place
      have go : ∀ {s1 : PS} {ν1 : mM} {i1 : Nat}, i < i1 → i1 ≤ n → s177L21 200 (nI (pDA s), bI s.2.2.2.1, nI i, ν) = some (.inl (nI (pDA s1), bI s1.2.2.2.1, nI (skp tx n i1), ν1)) → FrQ ν ν1 → PW s1 → s1.2.2.1 = false → PRf ν1 s1 → pRun tx (n - i) i s = pRun tx (n - i1) i1 s1 → ∃ o ν', mLoop (s177L21 200) (fuel + 1) (nI (pDA s), bI s.2.2.2.1, nI i, ν) = some o ∧ FrQ ν ν' ∧ (∀ j, pRun tx (n - i) i s = .inl j → o = .inr (nI j, ν')) ∧ ∀ s', pRun tx (n - i) i s = .inr s' → (s'.2.2.1 = true → o = .inr (nI n, ν')) ∧ (s'.2.2.1 = false → o = .inl (nI (pDA s'), ν') ∧ PRf ν' s') := fun {s1 ν1 i1} hlt hle e hf hW1 hU1 hC1 hrn => by
        obtain ⟨k1, k2, k3⟩ := skp_le (tx := tx) (i := i1) hle
        obtain ⟨o, ν', r1, r2, r3, r4⟩ := k177L hn ht (m - 1) (i := skp tx n i1) (fuel := fuel) (s := s1) (ν := ν1) k2 (by omega) (by omega) k3 (hR.fq hf.1) (hT.fr hf) hW1 hU1 hC1
        have hsk := pRun_skp (n := n) (tx := tx) (s := s1) (n - i1) (i := i1) (by omega)
        refine ⟨o, ν', by simp only [mLoop, e, r1], hf.trans r2, fun j h2 => r3 j ?_, fun s' h2 => r4 s' ?_⟩
        · rw [← hsk, ← hrn]; exact h2
        · rw [← hsk, ← hrn]; exact h2
      have enter : ∀ {r}, (if ¬ nI (tx i) = 40 then (s177L21_50 200 ν (nI (pDA s)) (nI i) (nI (tx i))) else (if bI s.2.2.2.1 = 0 then (s177L21_50 200 ν (nI (pDA s)) (nI i) (nI (tx i))) else (if (mS ν (mP ν 200 12)).1 = 10 ∧ mInb (nI (pDA s) + 1) (mS ν (mP ν 200 12)).2 then (some (mUI ν (mP ν 200 12) (Int32.toNatClampNeg (nI (pDA s) + 1)) (mI ν 200 11))).bind fun μ33 => if (mS μ33 (mP μ33 200 13)).1 = 10 ∧ mInb (nI (pDA s) + 1) (mS μ33 (mP μ33 200 13)).2 then (some (mUI μ33 (mP μ33 200 13) (Int32.toNatClampNeg (nI (pDA s) + 1)) 0)).bind fun μ35 => s177L21_101 200 μ35 (nI (pDA s) + 1) 0 (nI i) else none else none))) = r → s177L21 200 (nI (pDA s), bI s.2.2.2.1, nI i, ν) = r := fun {r} hr => by
        unfold s177L21
        refine iteT (by rw [RefL.s hR]) (iteF g1 (ckA (q' := 206) (n := 60) (j := i) (RefL.r5 hR) (RefL.a5 hR) rfl (by omega) (by omega) ?_))
        simp only [g3]
        exact hr
      have i1 : nI i + 1 = nI (i + 1) := nI_add _ 1
      -- not a router's letter: _59
      have f59 : kdOf (tx i) = 4 → s177L21_59 200 ν (nI (pDA s)) (nI i) (nI (tx i)) = some (.inr (.inr (nI i, ν))) := fun h => by
        unfold s177L21_59
        refine bindS (k174 hc) ?_
        rw [if_pos h]
        exact iteT (by rw [RefL.s hR]) (bindS (k176n hR hW hC) (iteT rfl rfl))
      by_cases c40 : tx i = 40
      · have e40 : ¬ ¬ nI (tx i) = 40 := by rw [c40]; decide
        rcases Bool.eq_false_or_eq_true s.2.2.2.1 with hM | hM
        · obtain ⟨s1, N, q1, q2, q3, q4, q5, q6, q7⟩ := pStep_opn hW hU hM hC
          have d1 : nI (pDA s) + 1 = nI (pDA s + 1) := nI_add _ 1
          refine go (s1 := s1) (i1 := i + 1) (by omega) (by omega) (enter (iteF e40 (iteF (by rw [hM]; decide) ?_))) ?_ (PW_step hW q1) q2 q7 (hrun (by rw [c40]; exact q1))
          · refine stA (q' := 211) (n := 6) (j := pDA s + 1) (x' := nI N) (RefL.r12 hR) (RefL.a12 hR) d1 (by omega) (by omega) q6 ?_
            refine stA (q' := 212) (n := 6) (j := pDA s + 1) (x' := nI 0) (RefL.r13 hR) (RefL.a13 hR) d1 (by omega) (by omega) rfl ?_
            unfold s177L21_101
            have hf1 : FrQ ν (mUI (mUI ν 211 (pDA s + 1) (nI N)) 212 (pDA s + 1) (nI 0)) := by
              refine (FrQ_UI ?_).trans (FrQ_UI ?_) <;> omega
            refine iteT (by rw [RefL.s (hR.fq hf1.1)]) ?_
            rw [i1]
            refine bindS (k175 (hR.fq hf1.1) (hT.fr hf1) hn ht (by omega)) ?_
            rw [d1, q4, q3]; rfl
          · refine (FrQ_UI ?_).trans (FrQ_UI ?_) <;> omega
        · refine fault (enter (iteF e40 (iteT (by rw [hM]; rfl) ?_))) (FrQ.refl _) ?_
          · unfold s177L21_50
            exact iteT (by rw [c40]; decide) (f59 (by rw [c40]; rfl))
          · rw [c40]
            obtain ⟨N, A, U, M, K, G, P, O, D, T⟩ := s
            simp only at hM
            subst hM
            rfl
      · have e40 : ¬ nI (tx i) = 40 := ne 40 (by omega) c40
        by_cases c41 : tx i = 41
        · by_cases hD : pDA s = 0
          · refine fault (enter (iteT e40 ?_)) (FrQ.refl _) ?_
            · unfold s177L21_50
              refine iteF (by rw [c41]; decide) (iteT (by rw [hD]; decide) (f59 (by rw [c41]; rfl)))
            · rw [c41]
              obtain ⟨N, A, U, M, K, G, P, O, D, T⟩ := s
              have zA := (D_0 hW).2.mp hD
              unfold pStep pCl
              simp [zA]
          · obtain ⟨s1, q1, q2, q3, q4, q5⟩ := pStep_cls hW hU hD hC
            have hD' : ¬ nI (pDA s) ≤ 0 := by rw [L_0, nI_leI (by omega) (by omega)]; omega
            have dm : nI (pDA s) + (-1) = nI (pDA s1) := by
              rw [← q4, ← nI_add, Int32.add_assoc]
              exact Int32.add_zero _
            refine go (s1 := s1) (ν1 := ν) (i1 := i + 1) (by omega) (by omega) (enter (iteT e40 ?_)) (FrQ.refl _) (PW_step hW q1) q2 q5 (hrun (by rw [c41]; exact q1))
            unfold s177L21_50
            refine iteF (by rw [c41]; decide) (iteF hD' ?_)
            unfold s177L21_101
            refine iteT (by rw [RefL.s hR]) ?_
            rw [i1]
            refine bindS (k175 hR hT hn ht (by omega)) ?_
            rw [dm, q3]; rfl
        · have e41 : ¬ nI (tx i) = 41 := ne 41 (by omega) c41
          have in59 : ∀ {r}, s177L21_59 200 ν (nI (pDA s)) (nI i) (nI (tx i)) = r → s177L21 200 (nI (pDA s), bI s.2.2.2.1, nI i, ν) = r := fun {r} hr => enter (iteT e40 (by unfold s177L21_50; exact iteT e41 hr))
          by_cases hk : kdOf (tx i) = 4
          · refine fault (in59 (f59 hk)) (FrQ.refl _) ?_
            unfold pStep
            rw [if_neg h32, if_neg c40, if_neg c41]
            by_cases cd : 49 ≤ tx i ∧ tx i ≤ 51
            · rw [if_pos cd]
              obtain ⟨N, A, U, M, K, G, P, O, D, T⟩ := s
              simp only at hU
              subst hU
              rfl
            · rw [if_neg cd, if_pos hk]
          · have hk3 : kdOf (tx i) ≤ 3 := by
              have : kdOf (tx i) ≤ 4 := by unfold kdOf; repeat' split
                                           all_goals omega
              omega
            have nd : ¬ (49 ≤ tx i ∧ tx i ≤ 51) := fun z => hk (by unfold kdOf; rw [if_neg (by omega), if_neg (by omega), if_neg (by omega), if_neg (by omega)])
            have pe : pStep (tx i) s = pRt (kdOf (tx i)) s := by unfold pStep; rw [if_neg h32, if_neg c40, if_neg c41, if_neg nd, if_neg hk]
            have en59 : ∀ {r}, ((s176 ν 200 (nI (kdOf (tx i))) (nI (pDA s))).bind fun q14 => if q14.1 = 0 then (some (.inr (.inr (nI i, q14.2)))) else (if (mS q14.2 200).1 = 9 then (s175 q14.2 200 (nI i + 1)).bind fun q17 => if q17 = (mI q14.2 200 6) then (s177L21_83 200 q14.2 q17) else (if (mS q14.2 (mP q14.2 200 5)).1 = 10 ∧ mInb q17 (mS q14.2 (mP q14.2 200 5)).2 then (s144 q14.2 (mI q14.2 (mP q14.2 200 5) (Int32.toNatClampNeg q17)) 49 51).bind fun q20 => if ¬ q20 = 0 then (if (mS q14.2 (mP q14.2 200 8)).1 = 10 ∧ mInb (mI q14.2 200 11) (mS q14.2 (mP q14.2 200 8)).2 then (some (mUI q14.2 (mP q14.2 200 8) (Int32.toNatClampNeg (mI q14.2 200 11)) ((mI q14.2 (mP q14.2 200 5) (Int32.toNatClampNeg q17)) - 48))).bind fun μ23 => s177L21_101 200 μ23 (nI (pDA s)) 1 q17 else none) else (s177L21_83 200 q14.2 q17) else none) else none)) = r → s177L21_59 200 ν (nI (pDA s)) (nI i) (nI (tx i)) = r := fun {r} hr => by
              unfold s177L21_59
              refine bindS (k174 hc) ?_
              rw [if_neg hk]
              exact iteT (by rw [RefL.s hR]) hr
            rcases k176 hk3 hR hW hU hC with ⟨s1, ν1, q1, q2, q3, q4⟩ | ⟨q1, q2⟩
            · obtain ⟨t1, t2, t3⟩ := pRt_eq hW q1
              have hW1 : PW s1 := PW_Rt hk3 hW q1
              have hR1 := hR.fq q4.1
              have hT1 := hT.fr q4
              obtain ⟨k1, k2, k3⟩ := skp_le (tx := tx) (n := n) (i := i + 1) (by omega)
              have hr1 := hrun (pe.trans q1)
              have hsk := pRun_skp (n := n) (tx := tx) (s := s1) (n - (i + 1)) (i := i + 1) (by omega)
              have e75 := k175 (i := i + 1) hR1 hT1 hn ht (by omega)
              rw [hsk] at hr1
              generalize skp tx n (i + 1) = i2 at *
              by_cases hi2 : i2 = n
              · have e : s177L21 200 (nI (pDA s), bI s.2.2.2.1, nI i, ν) = some (.inr (.inr (nI n, ν1))) := by
                  refine in59 (en59 (bindS q2 (iteF (show ¬ nI 1 = 0 by decide) (iteT (by rw [RefL.s hR1]) ?_))))
                  rw [i1]
                  refine bindS e75 (iteT (by rw [hT1.1, hi2]) ?_)
                  rw [hi2]; rfl
                refine ⟨_, ν1, by simp only [mLoop, e]; rfl, q4, fun j h2 => ?_, fun s' h2 => ?_⟩
                · rw [hr1, hi2, Nat.sub_self] at h2; cases h2
                · rw [hr1, hi2, Nat.sub_self] at h2; cases h2
                  exact ⟨fun _ => rfl, fun z => (by rw [t2] at z; cases z)⟩
              · have hne2 : ¬ nI i2 = mI ν1 200 6 := by rw [hT1.1, nI_eq (by omega) (by omega)]; exact hi2
                have g3' : mI ν1 (mP ν1 200 5) (Int32.toNatClampNeg (nI i2)) = nI (tx i2) := by rw [RefL.r5 hR1, m_cl (by omega)]; exact hT1.2 _ (by omega)
                have hc2 := ht i2 (by omega)
                have h322 : ¬ tx i2 = 32 := k3.resolve_left hi2
                have en2 : ∀ {r}, ((s144 ν1 (nI (tx i2)) 49 51).bind fun q20 => if ¬ q20 = 0 then (if (mS ν1 (mP ν1 200 8)).1 = 10 ∧ mInb (mI ν1 200 11) (mS ν1 (mP ν1 200 8)).2 then (some (mUI ν1 (mP ν1 200 8) (Int32.toNatClampNeg (mI ν1 200 11)) ((nI (tx i2)) - 48))).bind fun μ23 => s177L21_101 200 μ23 (nI (pDA s)) 1 (nI i2) else none) else (s177L21_83 200 ν1 (nI i2))) = r → s177L21 200 (nI (pDA s), bI s.2.2.2.1, nI i, ν) = r := fun {r} hr => by
                  refine in59 (en59 (bindS q2 (iteF (show ¬ nI 1 = 0 by decide) (iteT (by rw [RefL.s hR1]) ?_))))
                  rw [i1]
                  refine bindS e75 (iteF hne2 (ckA (q' := 206) (n := 60) (j := i2) (RefL.r5 hR1) (RefL.a5 hR1) rfl (by omega) (by omega) ?_))
                  simp only [g3']
                  exact hr
                by_cases cd : 49 ≤ tx i2 ∧ tx i2 ≤ 51
                · obtain ⟨s2, u1', u2, u3, u4, N, u5, u6, u7⟩ := pStep_dig hW1 t2 cd q3
                  have b1 : s144 ν1 (nI (tx i2)) 49 51 = some (nI 1) := by
                    rw [L_49, L_51, k144 (by omega) (by omega) (by omega)]; simp [cd, bI]
                  have hf2 : FrQ ν (mUI ν1 208 N (nI (tx i2 - 48))) := q4.trans (FrQ_UI (by omega))
                  refine go (s1 := s2) (i1 := i2 + 1) (by omega) (by omega) (en2 (bindS b1 (iteT (by decide) ?_))) hf2 (PW_step hW1 u1') u2 u7 ?_
                  · refine stA (q' := 208) (n := 8) (j := N) (x' := nI (tx i2 - 48)) (RefL.r8 hR1) (RefL.a8 hR1) u6 u5 (by omega) (nI_sub (b := 48) (by omega)) ?_
                    unfold s177L21_101
                    refine iteT (by rw [RefL.s (hR.fq hf2.1)]) ?_
                    rw [show nI i2 + 1 = nI (i2 + 1) from nI_add _ 1]
                    refine bindS (k175 (hR.fq hf2.1) (hT.fr hf2) hn ht (by omega)) ?_
                    rw [u4, t1, u3]; rfl
                  · rw [hr1, show n - i2 = (n - (i2 + 1)) + 1 by omega]
                    show (match pStep (tx i2) s1 with | none => Sum.inl i2 | some s' => pRun tx (n - (i2 + 1)) (i2 + 1) s') = _
                    rw [u1']
                · have b1 : s144 ν1 (nI (tx i2)) 49 51 = some (nI 0) := by
                    rw [L_49, L_51, k144 (by omega) (by omega) (by omega)]; simp [cd, bI]
                  have e : s177L21 200 (nI (pDA s), bI s.2.2.2.1, nI i, ν) = some (.inr (.inr (nI i2, ν1))) := en2 (bindS b1 (iteF (by decide) rfl))
                  have hnn : pRun tx (n - i) i s = .inl i2 := by
                    rw [hr1, show n - i2 = (n - (i2 + 1)) + 1 by omega]
                    show (match pStep (tx i2) s1 with | none => Sum.inl i2 | some s' => pRun tx (n - (i2 + 1)) (i2 + 1) s') = _
                    rw [pStep_due t2 t3 h322 cd]
                  refine ⟨_, ν1, by simp only [mLoop, e]; rfl, q4, fun j h2 => ?_, fun s' h2 => ?_⟩
                  · rw [hnn] at h2; cases h2; rfl
                  · rw [hnn] at h2; cases h2
            · refine fault (in59 (en59 (bindS q2 (iteT rfl rfl)))) (FrQ.refl _) (pe.trans q1)
termination_by m i fuel => fuel
theorem k177 (hR : RefL (mS μ) (mP μ)) (hn : n ≤ 60) (ht : ∀ j, j < n → tx j ≤ 127) (hT : TxR μ n tx) : ∃ ν, s177 μ 200 = some (vP tx n, ν) ∧ FrQ μ ν ∧ ∀ s, pRun tx n 0 pS0 = .inr s → vP tx n = -nI 10 → PRf ν s := by
  have hf0 : FrQ μ (mUI (mUI (mUI μ 200 11 (nI 0)) 211 0 (nI 0)) 212 0 (nI 0)) := by
    refine ((FrQ_UI ?_).trans (FrQ_UI ?_)).trans (FrQ_UI ?_) <;> omega
  have hC0 : PRf (mUI (mUI (mUI μ 200 11 (nI 0)) 211 0 (nI 0)) 212 0 (nI 0)) pS0 := by
    refine ⟨by simp [mI_UI], fun k h1 h2 => by omega, fun k hk => ?_⟩
    have : k = 0 := by have : (fun _ => 0 : Nat → Nat) 0 = 0 := rfl; omega
    subst this
    exact ⟨by simp [mI_UI]; rfl, by simp [mI_UI]⟩
  have hR0 := hR.fq hf0.1
  have hT0 := hT.fr hf0
  have e75 := k175 (i := 0) hR0 hT0 hn ht (by omega)
  obtain ⟨k1, k2, k3⟩ := skp_le (tx := tx) (n := n) (i := 0) (by omega)
  have hsk := pRun_skp (n := n) (tx := tx) (s := pS0) n (i := 0) (by omega)
  obtain ⟨o, ν1, r1, r2, r3, r4⟩ := k177L hn ht n (i := skp tx n 0) (fuel := 1000) (s := pS0) (ν := mUI (mUI (mUI μ 200 11 (nI 0)) 211 0 (nI 0)) 212 0 (nI 0)) k2 (by omega) (by omega) k3 hR0 hT0 PW_0 rfl hC0
  have hf1 := hf0.trans r2
  rw [← hsk] at r3 r4
  have head : ∀ {r}, (Sum.elim (fun x40 : Int32 × mM => if x40.1 ≤ 0 then (s177_114 200 x40.2 (-10)) else (if (mS x40.2 200).1 = 9 then s177_114 200 x40.2 (mI x40.2 200 6) else none)) (fun y41 => some y41) o) = r → s177 μ 200 = r := fun {r} hr => by
    unfold s177
    refine iteT (by rw [RefL.s hR]) (bindS (v := mUI μ 200 11 (nI 0)) rfl ?_)
    refine stA (q' := 211) (n := 6) (j := 0) (x' := nI 0) (RefL.r12 hR) (RefL.a12 hR) rfl (by omega) (by omega) rfl ?_
    refine stA (q' := 212) (n := 6) (j := 0) (x' := nI 0) (RefL.r13 hR) (RefL.a13 hR) rfl (by omega) (by omega) rfl ?_
    exact bindS e75 (bindS r1 hr)
  cases hr : pRun tx n 0 pS0 with
  | inl j =>
    have ev : vP tx n = nI j := by unfold vP; rw [hr]
    rw [ev]
    refine ⟨ν1, head ?_, hf1, fun s h => by cases h⟩
    rw [r3 j hr]; rfl
  | inr s =>
    have hW := PW_run PW_0 hr
    obtain ⟨a1, a2⟩ := r4 s hr
    have ev : vP tx n = if s.2.2.1 = true ∨ ¬ s.2.1 = 0 then nI n else -nI 10 := by unfold vP; rw [hr]
    cases hU : s.2.2.1 with
    | true =>
      rw [hU, if_pos (Or.inl rfl)] at ev
      rw [ev]
      refine ⟨ν1, head ?_, hf1, fun s' h z => ?_⟩
      · rw [a1 hU]; rfl
      · exact absurd z (fun z => (nI_ng (k := 10) (by omega) (by omega) (by omega)).mp z)
    | false =>
      obtain ⟨b1, b2⟩ := a2 hU
      have hd : pDA s ≤ 4 ∧ (pDA s = 0 ↔ s.2.1 = 0) := by
        obtain ⟨N, A, U, M, K, G, P, O, D, T⟩ := s
        exact D_0 hW
      by_cases zA : s.2.1 = 0
      · have ev2 : vP tx n = -nI 10 := by rw [ev, hU]; simp [zA]
        rw [ev2]
        refine ⟨ν1, head ?_, hf1, fun s' h z => ?_⟩
        · rw [b1]
          show (if nI (pDA s) ≤ 0 then _ else _) = _
          rw [hd.2.mpr zA]
          exact iteT (by decide) rfl
        · cases h; exact b2
      · rw [hU, if_pos (Or.inr zA)] at ev
        rw [ev]
        refine ⟨ν1, head ?_, hf1, fun s' h z => ?_⟩
        · rw [b1]
          show (if nI (pDA s) ≤ 0 then _ else _) = _
          refine iteF ?_ (iteT (by rw [RefL.s (hR.fq hf1.1)]) ?_)
          · rw [L_0, nI_leI (by omega) (by omega)]
            have := hd.2; omega
          · unfold s177_114
            rw [(hT.fr hf1).1]
        · exact absurd z (fun z => (nI_ng (k := 10) (by omega) (by omega) (by omega)).mp z)
end RL
