/-! the text read: class and reference -/
section PR
variable {μ ν : mM} {c : Nat}
theorem j63 (hP : PlanL (mS μ) (mP μ) 3) (hc : c ≤ 127) {s : PS} (hW : PW s) (hC : PCl μ s) : (∃ s' ν, pStep c s = some s' ∧ s63 μ 3 (nI c) = some (nI 1, ν) ∧ PCl ν s' ∧ FrP μ ν) ∨ (pStep c s = none ∧ s63 μ 3 (nI c) = some (nI 0, μ)) := by
  have p1 : (mS μ 3).1 = 3 := by rw [hP.1]
  by_cases c32 : c = 32
  · subst c32
    exact Or.inl ⟨s, μ, rfl, by unfold s63; exact iteT (by decide) rfl, hC, FrP.refl _⟩
  by_cases c40 : c = 40
  · subst c40
    have eS : pStep 40 s = pOp s := rfl
    rcases j64 hP hW hC with ⟨s', ν, h1, h2, h3, h4⟩ | ⟨h1, h2⟩
    · exact Or.inl ⟨s', ν, eS.trans h1, by unfold s63; exact iteF (by decide) (iteT (by decide) (iteT p1 (bindS h2 (iteT (Or.inr rfl) rfl)))), h3, h4⟩
    · exact Or.inr ⟨eS.trans h1, by unfold s63; exact iteF (by decide) (iteT (by decide) (iteT p1 (bindS h2 (iteT (Or.inl rfl) rfl))))⟩
  by_cases c41 : c = 41
  · subst c41
    have eS : pStep 41 s = pCl s := rfl
    rcases j65 hP hW hC with ⟨s', ν, h1, h2, h3, h4⟩ | ⟨h1, h2⟩
    · exact Or.inl ⟨s', ν, eS.trans h1, by unfold s63; exact iteF (by decide) (iteF (by decide) (iteT (by decide) (iteT p1 (bindS h2 (iteT (Or.inr rfl) rfl))))), h3, h4⟩
    · exact Or.inr ⟨eS.trans h1, by unfold s63; exact iteF (by decide) (iteF (by decide) (iteT (by decide) (iteT p1 (bindS h2 (iteT (Or.inl rfl) rfl)))))⟩
  by_cases c49 : c = 49
  · subst c49
    have eS : pStep 49 s = pDg 1 s := rfl
    rcases j68 (g := 1) (by omega) hP hW hC with ⟨s', ν, h1, h2, h3, h4⟩ | ⟨h1, h2⟩
    · exact Or.inl ⟨s', ν, eS.trans h1, by unfold s63; exact iteF (by decide) (iteF (by decide) (iteF (by decide) (iteT (by decide) (iteT p1 (bindS h2 (iteT (Or.inr rfl) rfl)))))), h3, h4⟩
    · exact Or.inr ⟨eS.trans h1, by unfold s63; exact iteF (by decide) (iteF (by decide) (iteF (by decide) (iteT (by decide) (iteT p1 (bindS h2 (iteT (Or.inl rfl) rfl))))))⟩
  by_cases c50 : c = 50
  · subst c50
    have eS : pStep 50 s = pDg 2 s := rfl
    rcases j68 (g := 2) (by omega) hP hW hC with ⟨s', ν, h1, h2, h3, h4⟩ | ⟨h1, h2⟩
    · exact Or.inl ⟨s', ν, eS.trans h1, by unfold s63; exact iteF (by decide) (iteF (by decide) (iteF (by decide) (iteF (by decide) (iteT (by decide) (iteT p1 (bindS h2 (iteT (Or.inr rfl) rfl))))))), h3, h4⟩
    · exact Or.inr ⟨eS.trans h1, by unfold s63; exact iteF (by decide) (iteF (by decide) (iteF (by decide) (iteF (by decide) (iteT (by decide) (iteT p1 (bindS h2 (iteT (Or.inl rfl) rfl)))))))⟩
  by_cases c51 : c = 51
  · subst c51
    have eS : pStep 51 s = pDg 3 s := rfl
    rcases j68 (g := 3) (by omega) hP hW hC with ⟨s', ν, h1, h2, h3, h4⟩ | ⟨h1, h2⟩
    · exact Or.inl ⟨s', ν, eS.trans h1, by unfold s63; exact iteF (by decide) (iteF (by decide) (iteF (by decide) (iteF (by decide) (iteF (by decide) (iteT (by decide) (iteT p1 (bindS h2 (iteT (Or.inr rfl) rfl)))))))), h3, h4⟩
    · exact Or.inr ⟨eS.trans h1, by unfold s63; exact iteF (by decide) (iteF (by decide) (iteF (by decide) (iteF (by decide) (iteF (by decide) (iteT (by decide) (iteT p1 (bindS h2 (iteT (Or.inl rfl) rfl))))))))⟩
  by_cases c100 : c = 100
  · subst c100
    have eS : pStep 100 s = pRt 2 s := rfl
    rcases j66 (k := 2) (by omega) hP hW hC with ⟨s', ν, h1, h2, h3, h4⟩ | ⟨h1, h2⟩
    · exact Or.inl ⟨s', ν, eS.trans h1, by unfold s63; exact iteF (by decide) (iteF (by decide) (iteF (by decide) (iteF (by decide) (iteF (by decide) (iteF (by decide) (iteT (by decide) (iteT p1 (bindS h2 (iteT (Or.inr rfl) rfl))))))))), h3, h4⟩
    · exact Or.inr ⟨eS.trans h1, by unfold s63; exact iteF (by decide) (iteF (by decide) (iteF (by decide) (iteF (by decide) (iteF (by decide) (iteF (by decide) (iteT (by decide) (iteT p1 (bindS h2 (iteT (Or.inl rfl) rfl)))))))))⟩
  by_cases c104 : c = 104
  · subst c104
    have eS : pStep 104 s = pRt 0 s := rfl
    rcases j66 (k := 0) (by omega) hP hW hC with ⟨s', ν, h1, h2, h3, h4⟩ | ⟨h1, h2⟩
    · exact Or.inl ⟨s', ν, eS.trans h1, by unfold s63; exact iteF (by decide) (iteF (by decide) (iteF (by decide) (iteF (by decide) (iteF (by decide) (iteF (by decide) (iteF (by decide) (iteT (by decide) (iteT p1 (bindS h2 (iteT (Or.inr rfl) rfl)))))))))), h3, h4⟩
    · exact Or.inr ⟨eS.trans h1, by unfold s63; exact iteF (by decide) (iteF (by decide) (iteF (by decide) (iteF (by decide) (iteF (by decide) (iteF (by decide) (iteF (by decide) (iteT (by decide) (iteT p1 (bindS h2 (iteT (Or.inl rfl) rfl))))))))))⟩
  by_cases c110 : c = 110
  · subst c110
    have eS : pStep 110 s = pRt 3 s := rfl
    rcases j66 (k := 3) (by omega) hP hW hC with ⟨s', ν, h1, h2, h3, h4⟩ | ⟨h1, h2⟩
    · exact Or.inl ⟨s', ν, eS.trans h1, by unfold s63; exact iteF (by decide) (iteF (by decide) (iteF (by decide) (iteF (by decide) (iteF (by decide) (iteF (by decide) (iteF (by decide) (iteF (by decide) (iteT (by decide) (iteT p1 (bindS h2 (iteT (Or.inr rfl) rfl))))))))))), h3, h4⟩
    · exact Or.inr ⟨eS.trans h1, by unfold s63; exact iteF (by decide) (iteF (by decide) (iteF (by decide) (iteF (by decide) (iteF (by decide) (iteF (by decide) (iteF (by decide) (iteF (by decide) (iteT (by decide) (iteT p1 (bindS h2 (iteT (Or.inl rfl) rfl)))))))))))⟩
  by_cases c115 : c = 115
  · subst c115
    have eS : pStep 115 s = pRt 1 s := rfl
    rcases j66 (k := 1) (by omega) hP hW hC with ⟨s', ν, h1, h2, h3, h4⟩ | ⟨h1, h2⟩
    · exact Or.inl ⟨s', ν, eS.trans h1, by unfold s63; exact iteF (by decide) (iteF (by decide) (iteF (by decide) (iteF (by decide) (iteF (by decide) (iteF (by decide) (iteF (by decide) (iteF (by decide) (iteF (by decide) (iteT (by decide) (iteT p1 (bindS h2 (iteT (Or.inr rfl) rfl)))))))))))), h3, h4⟩
    · exact Or.inr ⟨eS.trans h1, by unfold s63; exact iteF (by decide) (iteF (by decide) (iteF (by decide) (iteF (by decide) (iteF (by decide) (iteF (by decide) (iteF (by decide) (iteF (by decide) (iteF (by decide) (iteT (by decide) (iteT p1 (bindS h2 (iteT (Or.inl rfl) rfl))))))))))))⟩
  right
  have hk : kdOf c = 4 := by unfold kdOf; rw [if_neg c104, if_neg c115, if_neg c100, if_neg c110]
  refine ⟨by unfold pStep; rw [if_neg c32, if_neg c40, if_neg c41, if_neg (by omega), if_pos hk], ?_⟩
  have ne : ∀ m, m < 2 ^ 31 → ¬ c = m → ¬ nI c = nI m := fun m hm h z => h ((nI_eq (by omega) hm).mp z)
  unfold s63
  exact iteF (ne 32 (by omega) c32) (iteF (ne 40 (by omega) c40) (iteF (ne 41 (by omega) c41) (iteF (ne 49 (by omega) c49) (iteF (ne 50 (by omega) c50) (iteF (ne 51 (by omega) c51) (iteF (ne 100 (by omega) c100) (iteF (ne 104 (by omega) c104) (iteF (ne 110 (by omega) c110) (iteF (ne 115 (by omega) c115) (rfl))))))))))
theorem PlanL.fr {a : Nat} (h : PlanL (mS μ) (mP μ) a) (hf : ν.2 = μ.2) : PlanL (mS ν) (mP ν) a := by
  have e1 : mS ν = mS μ := by show ν.2.2.2.2.1 = _; rw [hf]
  have e2 : mP ν = mP μ := by show ν.2.2.2.1 = _; rw [hf]
  rw [e1, e2]; exact h
variable {n : Nat} {tx : Nat → Nat}
/-- the class's text -/
def TxC (ν : mM) (n : Nat) (tx : Nat → Nat) : Prop := mI ν 3 1 = nI n ∧ ∀ j, j < n → mI ν 4 j = nI (tx j)
theorem TxC.fr (h : TxC μ n tx) (hf : FrP μ ν) : TxC ν n tx := ⟨by rw [hf.2 3 1 (by omega)]; exact h.1, fun j hj => by rw [hf.2 4 j (by omega)]; exact h.2 j hj⟩
theorem j61L (hn : n ≤ 60) (ht : ∀ j, j < n → tx j ≤ 127) : ∀ (k : Nat) {i fuel : Nat} {s : PS} {ν : mM}, i + k = n → k < fuel → PlanL (mS ν) (mP ν) 3 → TxC ν n tx → PW s → PCl ν s → ∃ o ν', mLoop (s61L4 3) fuel (nI i, ν) = some o ∧ FrP ν ν' ∧ (∀ j, pRun tx k i s = .inl j → o = .inr (nI j, ν')) ∧ ∀ s', pRun tx k i s = .inr s' → o = .inl ν' ∧ PCl ν' s'
  | k, i, 0, s, ν, hi, hf, hP, hT, hW, hC => by omega
  | 0, i, fuel + 1, s, ν, hi, hf, hP, hT, hW, hC => by
    have e : s61L4 3 (nI i, ν) = some (.inr (.inl ν)) := by
      unfold s61L4
      refine iteT (by rw [hP.1]) (iteT ?_ rfl)
      rw [hT.1]; exact (nI_leI (by omega) (by omega)).mpr (by omega)
    refine ⟨.inl ν, ν, by simp only [mLoop, e], FrP.refl _, fun j h => (by cases h), fun s' h => ?_⟩
    cases h; exact ⟨rfl, hC⟩
  | k + 1, i, fuel + 1, s, ν, hi, hf, hP, hT, hW, hC => by
    obtain ⟨p1, p2, p3, p4, p5, p6, p7, p8, q1, q2, q3, q4, q5, q6, q7⟩ := id hP
    have g1 : ¬ mI ν 3 1 ≤ nI i := by rw [hT.1, nI_leI (by omega) (by omega)]; omega
    have g2 : ¬ (60 : Int32) ≤ nI i := by rw [L_60, nI_leI (by omega) (by omega)]; omega
    have g3 : mI ν (mP ν 3 0) (Int32.toNatClampNeg (nI i)) = nI (tx i) := by rw [p2, m_cl (by omega)]; exact hT.2 i (by omega)
    rcases j63 hP (ht i (by omega)) hW hC with ⟨s1, ν1, h1, h2, h3, h4⟩ | ⟨h1, h2⟩
    · have e : s61L4 3 (nI i, ν) = some (.inl (nI (i + 1), ν1)) := by
        unfold s61L4
        refine iteT (by rw [p1]) (iteF g1 (iteF g2 (ckA (q' := 4) (n := 60) (j := i) p2 q1 rfl (by omega) (by omega) ?_)))
        refine bindS (by rw [g3]; exact h2) (iteT (show ¬ nI 1 = 0 by decide) ?_)
        show some (Sum.inl (nI i + 1, ν1)) = _
        rw [show nI i + 1 = nI (i + 1) from nI_add _ 1]
      obtain ⟨o, ν', r1, r2, r3, r4⟩ := j61L hn ht k (i := i + 1) (fuel := fuel) (s := s1) (ν := ν1) (by omega) (by omega) (hP.fr h4.1) (hT.fr h4) (PW_step hW h1) h3
      refine ⟨o, ν', by simp only [mLoop, e, r1], h4.trans r2, fun j h => r3 j ?_, fun s' h => r4 s' ?_⟩
      · unfold pRun at h; rw [h1] at h; exact h
      · unfold pRun at h; rw [h1] at h; exact h
    · have e : s61L4 3 (nI i, ν) = some (.inr (.inr (nI i, ν))) := by
        unfold s61L4
        refine iteT (by rw [p1]) (iteF g1 (iteF g2 (ckA (q' := 4) (n := 60) (j := i) p2 q1 rfl (by omega) (by omega) ?_)))
        exact bindS (by rw [g3]; exact h2) (iteF (show ¬ ¬ nI 0 = 0 by decide) rfl)
      refine ⟨.inr (nI i, ν), ν, by simp only [mLoop, e], FrP.refl _, fun j h => ?_, fun s' h => ?_⟩
      · unfold pRun at h; rw [h1] at h; cases h; rfl
      · unfold pRun at h; rw [h1] at h; cases h
/-- what is answered -/
def vP (tx : Nat → Nat) (n : Nat) : Int32 := match pRun tx n 0 pS0 with
  | .inl j => nI j
  | .inr s => if s.2.2.1 = true ∨ ¬ s.2.1 = 0 then nI n else -nI 10
theorem j61 (hP : PlanL (mS μ) (mP μ) 3) (hn : n ≤ 60) (ht : ∀ j, j < n → tx j ≤ 127) (hT : TxC μ n tx) : ∃ ν, s61 μ 3 = some (vP tx n, ν) ∧ FrP μ ν ∧ ∀ s, pRun tx n 0 pS0 = .inr s → PCl ν s := by
  obtain ⟨p1, p2, p3, p4, p5, p6, p7, p8, q1, q2, q3, q4, q5, q6, q7⟩ := id hP
  have hf0 : FrP μ (mUI (mUI (mUI (mUI (mUI (mUI (mUI μ 5 0 (nI 4)) 9 0 (nI 0)) 10 0 (nI 0)) 3 8 (nI 0)) 3 9 (nI 0)) 3 10 (nI 0)) 3 11 (nI 0)) := by
    refine (((((((FrP_UI ?_).trans (FrP_UI ?_)).trans (FrP_UI ?_)).trans (FrP_UI ?_)).trans (FrP_UI ?_)).trans (FrP_UI ?_)).trans (FrP_UI ?_)) <;> omega
  have e0 : s62 μ 3 = some (mUI (mUI (mUI (mUI (mUI (mUI (mUI μ 5 0 (nI 4)) 9 0 (nI 0)) 10 0 (nI 0)) 3 8 (nI 0)) 3 9 (nI 0)) 3 10 (nI 0)) 3 11 (nI 0)) := by
    unfold s62
    refine iteT (by rw [p1]) ?_
    refine stA (q' := 5) (n := 8) (j := 0) (x' := nI 4) p3 q2 rfl (by omega) (by omega) rfl ?_
    refine stA (q' := 9) (n := 8) (j := 0) (x' := nI 0) p7 q6 rfl (by omega) (by omega) rfl ?_
    refine stA (q' := 10) (n := 8) (j := 0) (x' := nI 0) p8 q7 rfl (by omega) (by omega) rfl ?_
    rfl
  have hC0 : PCl (mUI (mUI (mUI (mUI (mUI (mUI (mUI μ 5 0 (nI 4)) 9 0 (nI 0)) 10 0 (nI 0)) 3 8 (nI 0)) 3 9 (nI 0)) 3 10 (nI 0)) 3 11 (nI 0)) pS0 := by
    refine ⟨by simp [mI_UI], by simp [mI_UI], by simp [mI_UI]; rfl, by simp [mI_UI]; rfl, fun k hk => ?_, fun k h1 h2 => by omega⟩
    have : k = 0 := by omega
    subst this
    exact ⟨by simp [mI_UI], by simp [mI_UI], by simp [mI_UI]⟩
  generalize mUI (mUI (mUI (mUI (mUI (mUI (mUI μ 5 0 (nI 4)) 9 0 (nI 0)) 10 0 (nI 0)) 3 8 (nI 0)) 3 9 (nI 0)) 3 10 (nI 0)) 3 11 (nI 0) = ν0 at *
  obtain ⟨o, ν1, r1, r2, r3, r4⟩ := j61L hn ht n (i := 0) (fuel := 1000) (s := pS0) (ν := ν0) (by omega) (by omega) (hP.fr hf0.1) (hT.fr hf0) PW_0 hC0
  have hf1 := hf0.trans r2
  have hP1 : (mS ν1 3).1 = 3 := by rw [(hP.fr hf1.1).1]
  have hT1 := hT.fr hf1
  cases hr : pRun tx n 0 pS0 with
  | inl j =>
    refine ⟨ν1, ?_, hf1, fun s h => by cases h⟩
    have ev : vP tx n = nI j := by unfold vP; rw [hr]
    rw [ev]
    unfold s61
    refine iteT (by rw [p1]) (bindS e0 (bindS r1 ?_))
    rw [r3 j hr]; rfl
  | inr s =>
    obtain ⟨N, A, U, M, K, G, P, O, D, T⟩ := s
    have hW := PW_run PW_0 hr
    obtain ⟨ho, hC⟩ := r4 _ hr
    refine ⟨ν1, ?_, hf1, fun s h => by cases h; exact hC⟩
    have ev : vP tx n = if U = true ∨ ¬ A = 0 then nI n else -nI 10 := by unfold vP; rw [hr]
    rw [ev]
    obtain ⟨w1, w2, -⟩ := hW
    obtain ⟨c1, c2, c3, -⟩ := hC
    unfold s61
    refine iteT (by rw [p1]) (bindS e0 (bindS r1 ?_))
    rw [ho]
    show s61_22 3 ν1 = _
    unfold s61_22
    refine iteT hP1 ?_
    cases U with
    | true =>
      rw [if_pos (Or.inl rfl)]
      refine iteT (by rw [c3]; decide) ?_
      unfold s61_28
      refine iteT hP1 ?_
      unfold s61_32
      rw [hT1.1]
    | false =>
      refine iteF (by rw [c3]; decide) ?_
      by_cases zA : A = 0
      · have ev2 : (if false = true ∨ ¬ A = 0 then nI n else -nI 10) = -nI 10 := by simp [zA]
        rw [ev2]
        refine iteT (by rw [c2, zA]; rfl) ?_
        rfl
      · rw [if_pos (Or.inr zA)]
        refine iteF (fun z => zA (by rw [c2, L_0, nI_eq (by omega) (by omega)] at z; exact z)) ?_
        unfold s61_28
        refine iteT hP1 ?_
        unfold s61_32
        rw [hT1.1]
end PR
