/-! build, both sides -/
section BO2
variable {μ ν : mM} {A : Ab} {n : Nat} {L : Nat} {xs : Nat → Int32}
theorem j100 {N X : Nat} {M : Bool} {K G P O D T : Nat → Nat} (hW : PW (N, X, false, M, K, G, P, O, D, T)) (hPC : PCl μ (N, X, false, M, K, G, P, O, D, T)) (hK : ClsL (mS μ) (mP μ)) (hC : CS μ 11 A) (ht : WFt A) (hu : WFu A) : ∃ ν ν1 ν2, mLoop (s100L9 2) 1000 (nI 0, μ) = some (.inl ν1) ∧ mLoop (s100L29 2) 1000 (nI 1, ν1) = some (.inl ν2) ∧ mLoop (s100L43 2) 1000 (nI 1, ν2) = some (.inl ν) ∧ CS ν 11 (bN K G P O N (deN p1 8 (shN (pO A) 10 A))) ∧ FrF 11 μ ν := by
  have low : ∀ {ν : mM}, FrF 11 μ ν → ∀ q, q < 11 → mI ν q = mI μ q := fun {ν} hf q hq => (hf.1.2 q (by omega)).1
  obtain ⟨μ1, e1, B, b1, b2, b3, b4, f1⟩ := mLoop_mem (b := s100L9 2) (μ := μ) (fun i ν => ∃ B, Eq4 B (shN (pO A) i A) ∧ CS ν 11 B ∧ WFt B ∧ WFu B ∧ FrF 11 μ ν) 0 10 (fun i ν hi hJ => by
    obtain ⟨B, b1, b2, b3, b4, f1⟩ := hJ
    have hK := hK.fr f1.1
    have hF := b2.1
    have hB0 : aT B i 0 = aT A i 0 := (b1.2.2 i 0 (by omega)).trans (shN_self i 0)
    have w := j17 b2 hi (b4.le1 hi)
    rw [hB0] at w
    rw [Nat.zero_add]
    have s8 : (mS ν 2).1 = 8 := by rw [ClsL.s hK]
    have sF : (mS ν (mP ν 2 1)).1 = 1 := by rw [ClsL.p1 hK, FabL.s0 hF]
    have l10 : ¬ (10 : Int32) ≤ nI i := by rw [L_10, nI_leI (by omega) (by omega)]; omega
    by_cases ho : aT A i 0 = 1
    · have hpo : pO A i = true := by unfold pO; simp [ho]
      rw [ho] at w
      have ho' : aT B i 0 = 1 := by rw [hB0]; exact ho
      have c1 := j50 b2 b3 b4 hi ho'
      have c2 := CS.shutT b2 (WN.of b3 b4) hi
      have hf2 : FrF 11 ν _ := FrF.shut (μ := ν) (f := 11) (t := i) (x := nI 0) (y := nI (aC B 2 + lostN B i)) hi
      generalize mUI (mUI ν (tu 11 i) 0 (nI 0)) 11 5 (nI (aC B 2 + lostN B i)) = ν' at *
      have ht1 : WFt (shutA B i) := b3.cg rfl rfl
      have hu1 : WFu (shutA B i) := wfu_shut b4
      obtain ⟨ν2, c3, c4, c5⟩ := j34 c2 ht1 hu1
      obtain ⟨w1, w2⟩ := dN_wf (n := 10) (o := -nI 1) ht1 hu1
      have hK2 := hK.fr hf2.1
      refine ⟨ν2, ?_, dist (shutA B i), ?_, c4, w1, w2, (f1.trans hf2).trans c5.F⟩
      · unfold s100L9
        refine iteF l10 (iteT s8 (iteT sF (bindS (v := nI 1) (by rw [ClsL.p1 hK]; exact w) (iteF (by decide) (bindS (by rw [ClsL.p1 hK]; exact c1) (iteT (by rw [ClsL.s hK2]) (iteT (by rw [ClsL.p1 hK2, FabL.s0 c2.1]) (bindS (by rw [ClsL.p1 hK2]; exact c3) ?_))))))))
        show some (Sum.inl (nI i + 1, ν2)) = _
        rw [show nI i + 1 = nI (i + 1) from nI_add _ 1]
      · unfold shN; rw [if_pos hpo]; exact b1.shut.dst
    · have hpo : ¬ pO A i = true := by unfold pO; simp [ho]
      have w' : s17 ν 11 (nI i) = some (nI 0) := by rw [w]; simp [ho, bI]
      refine ⟨ν, ?_, B, ?_, b2, b3, b4, f1⟩
      · unfold s100L9
        refine iteF l10 (iteT s8 (iteT sF (bindS (v := nI 0) (by rw [ClsL.p1 hK]; exact w') (iteT rfl ?_))))
        show some (Sum.inl (nI i + 1, ν)) = _
        rw [show nI i + 1 = nI (i + 1) from nI_add _ 1]
      · unfold shN; rw [if_neg hpo]; exact b1) (fun ν hJ => by
    unfold s100L9
    exact iteT (by show nI 10 ≤ nI (0 + 10); rw [nI_leI (by omega) (by omega)]; omega) rfl) ⟨A, ⟨rfl, rfl, fun _ _ _ => rfl⟩, hC, ht, hu, FrF.refl _ _⟩ (n := 1000) (by omega)
  have c1 : CS μ1 11 (shN (pO A) 10 A) := CS_closed b2 b1 shO_closed
  obtain ⟨μ2, e2, c2, f2⟩ := mLoop_mem (b := s100L29 2) (μ := μ1) (fun i ν => CS ν 11 (deN p1 (1 + i) (shN (pO A) 10 A)) ∧ FrF 11 μ1 ν) 1 7 (fun i ν hi hJ => by
    obtain ⟨c2, f2⟩ := hJ
    have hK := (hK.fr f1.1).fr f2.1
    have hF := c2.1
    refine ⟨mUI ν (ro 11 (1 + i)) 0 (nI 0), ?_, ?_, f2.trans (FrF_ro (j := 0) (by omega) (by omega) (Or.inl (by omega)))⟩
    · unfold s100L29
      refine iteF (by show ¬ nI 8 ≤ nI (1 + i); rw [nI_leI (by omega) (by omega)]; omega) (iteT (by rw [ClsL.s hK]) (iteT (by rw [ClsL.p1 hK, FabL.s0 hF]) (iteT ?_ (iteT ?_ ?_))))
      · rw [ClsL.p1 hK, FabL.p0 hF, FabL.s1 hF]; exact ⟨rfl, (mInb_iff (by omega)).mpr (by omega)⟩
      · rw [ClsL.p1 hK, FabL.p0 hF, m_cl (by omega), FabL.r hF (by omega), FabL.rs hF (by omega)]
      · refine bindS (v := mUI ν (ro 11 (1 + i)) 0 (nI 0)) ?_ ?_
        · rw [ClsL.p1 hK, FabL.p0 hF, m_cl (by omega), FabL.r hF (by omega)]; rfl
        · show some (Sum.inl (nI (1 + i) + 1, _)) = _
          rw [show nI (1 + i) + 1 = nI (1 + i + 1) from nI_add _ 1]
    · have : deN p1 (1 + (i + 1)) (shN (pO A) 10 A) = setR (deN p1 (1 + i) (shN (pO A) 10 A)) (1 + i) 0 0 := by
        rw [show 1 + (i + 1) = (1 + i) + 1 by omega]
        show (if p1 (1 + i) = true then _ else _) = _
        rw [if_pos (p1_iff.mpr (by omega))]
      rw [this]; exact CS.det c2 (by omega)) (fun ν hJ => by
    unfold s100L29
    exact iteT (by show nI 8 ≤ nI (1 + 7); rw [nI_leI (by omega) (by omega)]; omega) rfl) ⟨by
      show CS μ1 11 (if p1 0 = true then _ else _)
      rw [if_neg (fun z => (p1_iff.mp z) rfl)]; exact c1, FrF.refl _ _⟩ (n := 1000) (by omega)
  have hA := bldA_alone ht hu
  have hAl := bN_ok hW hA
  obtain ⟨h1, -⟩ := id hW
  have f12 := f1.trans f2
  obtain ⟨μ3, e3, c3, f3⟩ := mLoop_mem (b := s100L43 2) (μ := μ2) (fun i ν => CS ν 11 (bN K G P O i (deN p1 8 (shN (pO A) 10 A))) ∧ FrF 11 μ2 ν) 1 N (fun i ν hi hJ => by
    obtain ⟨c3, f3⟩ := hJ
    have f13 := f12.trans f3
    have hK := hK.fr f13.1
    have hF := c3.1
    have hPl := ClsL.pl hK
    obtain ⟨k1, k2, k3, k4, k5, k6⟩ := hPC.fr (low f13)
    obtain ⟨⟨w1, w2, -⟩, hadd⟩ := hAl i (by omega)
    obtain ⟨ν', q1, q2, q3⟩ := j25 (hadd hi) c3 w1 w2
    obtain ⟨m7, m8, m6⟩ := k6 (1 + i) (by omega) (by omega)
    have m6' := m6 (fun z => by cases z.1)
    have m5 := (k5 (1 + i) (by omega)).1
    obtain ⟨p1', p2, p3, p4, p5, p6, p7, p8, q1', q2', q3', q4, q5, q6, q7⟩ := hPl
    rw [Nat.add_comm i 1] at q1
    refine ⟨ν', ?_, q2, f3.trans q3⟩
    unfold s100L43
    refine iteT (by rw [ClsL.s hK]) (iteT (by rw [ClsL.p0 hK, p1']) (iteF ?_ (iteF ?_ ?_)))
    · rw [ClsL.p0 hK, k1, nI_ltI (by omega) (by omega)]; omega
    · show ¬ nI 8 ≤ nI (1 + i); rw [nI_leI (by omega) (by omega)]; omega
    · have z7 : mP ν (mP ν 2 0) 4 = 7 := by rw [ClsL.p0 hK]; exact p5
      have z8 : mP ν (mP ν 2 0) 5 = 8 := by rw [ClsL.p0 hK]; exact p6
      have z5 : mP ν (mP ν 2 0) 2 = 5 := by rw [ClsL.p0 hK]; exact p3
      have z6 : mP ν (mP ν 2 0) 3 = 6 := by rw [ClsL.p0 hK]; exact p4
      refine ckA (q' := 7) (n := 8) (j := 1 + i) z7 q4 rfl (by omega) (by omega) ?_
      refine ckA (q' := 8) (n := 8) (j := 1 + i) z8 q5 rfl (by omega) (by omega) ?_
      refine ckA (q' := 5) (n := 8) (j := 1 + i) z5 q2' rfl (by omega) (by omega) ?_
      refine ckA (q' := 6) (n := 8) (j := 1 + i) z6 q3' rfl (by omega) (by omega) ?_
      refine iteT (by rw [ClsL.p1 hK, FabL.s0 hF]) (bindS (v := ν') ?_ ?_)
      · show s25 ν (mP ν 2 1) (nI (1 + i)) (mI ν (mP ν (mP ν 2 0) 4) (Int32.toNatClampNeg (nI (1 + i)))) (mI ν (mP ν (mP ν 2 0) 5) (Int32.toNatClampNeg (nI (1 + i)))) (mI ν (mP ν (mP ν 2 0) 2) (Int32.toNatClampNeg (nI (1 + i)))) (mI ν (mP ν (mP ν 2 0) 3) (Int32.toNatClampNeg (nI (1 + i)))) = _
        rw [z7, z8, z5, z6, m_cl (by omega), m7, m8, m5, m6', ClsL.p1 hK]
        exact q1
      · show some (Sum.inl (nI (1 + i) + 1, _)) = _
        rw [show nI (1 + i) + 1 = nI (1 + i + 1) from nI_add _ 1]) (fun ν hJ => by
    obtain ⟨c3, f3⟩ := hJ
    have f13 := f12.trans f3
    have hK := hK.fr f13.1
    obtain ⟨k1, -⟩ := hPC.fr (low f13)
    unfold s100L43
    refine iteT (by rw [ClsL.s hK]) (iteT (by rw [ClsL.p0 hK, (ClsL.pl hK).1]) (iteT ?_ rfl))
    rw [ClsL.p0 hK, k1, nI_ltI (by omega) (by omega)]; omega) ⟨c2, FrF.refl _ _⟩ (n := 1000) (by omega)
  exact ⟨μ3, μ1, μ2, e1, e2, e3, c3, f12.trans f3⟩
theorem k181 {N X : Nat} {M : Bool} {K G P O D T : Nat → Nat} (hW : PW (N, X, false, M, K, G, P, O, D, T)) (hPR : PRf μ (N, X, false, M, K, G, P, O, D, T)) (hM : RS μ A) (ht : WFt A) (hu : WFu A) : ∃ x ν ν1 ν2, mLoop (s181L10 200) 1000 (nI 0, nI 0, μ) = some (.inl (nI x, ν1)) ∧ x ≤ 2460 ∧ mLoop (s181L31 200 (nI x)) 1000 (nI 1, ν1) = some (.inl ν2) ∧ mLoop (s181L43 200 (nI x)) 1000 (nI 1, ν2) = some (.inl ν) ∧ RS ν (bN K G P O N (deN p1 8 (shN (pO A) 10 A))) ∧ Fr 201 203 μ ν := by
  have hle : ∀ n, n ≤ 10 → sumN (fun t => if pO A t = true then lostN A t else 0) n ≤ n * 246 := fun n hn => by
    have := sumN_le (g := fun t => if pO A t = true then lostN A t else 0) (h := fun _ => 246) (n := n) (fun i hi => by
      show (if pO A i = true then lostN A i else 0) ≤ 246
      by_cases z : pO A i = true
      · rw [if_pos z]; exact lostN_le hu (by omega) (by unfold pO at z; simpa using z)
      · rw [if_neg z]; omega)
    rw [sumN_const] at this
    exact this
  obtain ⟨o, e1, ν1, rfl, m1, f1⟩ := mLoop_inv0 (b := s181L10 200) (fun i s => s.1 = nI (sumN (fun t => if pO A t = true then lostN A t else 0) i) ∧ s.2.1 = nI i ∧ RS s.2.2 (shN (pO A) i A) ∧ Fr 201 203 μ s.2.2) 10 (fun o => ∃ ν, o = .inl (nI (sumN (fun t => if pO A t = true then lostN A t else 0) 10), ν) ∧ RS ν (shN (pO A) 10 A) ∧ Fr 201 203 μ ν) (fun i s hi hI => by
    obtain ⟨x, y, ν⟩ := s
    obtain ⟨i1, i2, i3, i4⟩ := hI
    simp only at i1 i2 i3 i4
    subst i1 i2
    left
    have z0 := k159 i3 hi (k := 0) (by omega)
    rw [shN_self] at z0
    have hl := hu.le1 hi
    have l10 : ¬ (10 : Int32) ≤ nI i := by rw [L_10, nI_leI (by omega) (by omega)]; omega
    have s9 : (mS ν 200).1 = 9 := by rw [RefL.s i3.1]
    have sS : sumN (fun t => if pO A t = true then lostN A t else 0) (i + 1) = sumN (fun t => if pO A t = true then lostN A t else 0) i + (if pO A i = true then lostN A i else 0) := rfl
    by_cases ho : aT A i 0 = 1
    · have hpo : pO A i = true := by unfold pO; simp [ho]
      rw [ho] at z0
      obtain ⟨ν', d1, d2, d3⟩ := k172 i3 hi
      rw [shN_lost] at d1
      refine ⟨(nI (sumN (fun t => if pO A t = true then lostN A t else 0) i + lostN A i), nI (i + 1), ν'), ?_, by rw [sS, if_pos hpo], rfl, ?_, i4.trans (d3.mono (by omega) (by omega))⟩
      · unfold s181L10
        refine iteF l10 (iteT s9 (bindS z0 (iteF (by decide) (bindS d1 ?_))))
        show some (Sum.inl (nI (sumN (fun t => if pO A t = true then lostN A t else 0) i) + nI (lostN A i), nI i + 1, ν')) = _
        rw [nI_add, show nI i + 1 = nI (i + 1) from nI_add _ 1]
      · show RS ν' (shN _ (i + 1) A)
        unfold shN; rw [if_pos hpo]; exact d2
    · have hpo : ¬ pO A i = true := by unfold pO; simp [ho]
      refine ⟨(nI (sumN (fun t => if pO A t = true then lostN A t else 0) i), nI (i + 1), ν), ?_, by rw [sS, if_neg hpo]; rfl, rfl, ?_, i4⟩
      · unfold s181L10
        refine iteF l10 (iteT s9 (bindS z0 (iteT ?_ ?_)))
        · rw [L_1, nI_eq (by omega) (by omega)]; exact ho
        · show some (Sum.inl (nI (sumN (fun t => if pO A t = true then lostN A t else 0) i) + nI 0, nI i + 1, ν)) = _
          rw [nI_add, show nI i + 1 = nI (i + 1) from nI_add _ 1, Nat.add_zero]
      · show RS ν (shN _ (i + 1) A)
        unfold shN; rw [if_neg hpo]; exact i3) (fun s hI => by
    obtain ⟨x, y, ν⟩ := s
    obtain ⟨i1, i2, i3, i4⟩ := hI
    simp only at i1 i2 i3 i4
    subst i1 i2
    refine ⟨_, ?_, ν, rfl, i3, i4⟩
    unfold s181L10
    exact iteT (by show nI 10 ≤ nI 10; rw [nI_leI (by omega) (by omega)]; omega) rfl) (s := (nI 0, nI 0, μ)) ⟨rfl, rfl, hM, Fr.refl _ _ _⟩ (n := 1000) (by omega)
  have hx := hle 10 (by omega)
  generalize sumN (fun t => if pO A t = true then lostN A t else 0) 10 = x at *
  obtain ⟨ν2, e2, m2, f2⟩ := mLoop_mem (b := s181L31 200 (nI x)) (μ := ν1) (fun i ν => RS ν (deN p1 (1 + i) (shN (pO A) 10 A)) ∧ Fr 201 203 ν1 ν) 1 7 (fun i ν hi hJ => by
    obtain ⟨m2, f2⟩ := hJ
    have d1 := k149 (v := 0) m2 (r := 1 + i) (by omega) (k := 0) (by omega)
    refine ⟨mUI ν 201 (9 * (1 + i) + 0) (nI 0), ?_, ?_, f2.trans (Fr_UI _ (by omega) (by omega) _ _)⟩
    · unfold s181L31
      refine iteF (by show ¬ nI 8 ≤ nI (1 + i); rw [nI_leI (by omega) (by omega)]; omega) (iteT (by rw [RefL.s m2.1]) (bindS d1 ?_))
      show some (Sum.inl (nI (1 + i) + 1, _)) = _
      rw [show nI (1 + i) + 1 = nI (1 + i + 1) from nI_add _ 1]
    · have : deN p1 (1 + (i + 1)) (shN (pO A) 10 A) = setR (deN p1 (1 + i) (shN (pO A) 10 A)) (1 + i) 0 0 := by
        rw [show 1 + (i + 1) = (1 + i) + 1 by omega]
        show (if p1 (1 + i) = true then _ else _) = _
        rw [if_pos (p1_iff.mpr (by omega))]
      rw [this]; exact RS.uR (k := 0) m2 (by omega) (by omega)) (fun ν hJ => by
    unfold s181L31
    exact iteT (by show nI 8 ≤ nI (1 + 7); rw [nI_leI (by omega) (by omega)]; omega) rfl) ⟨by
      show RS ν1 (if p1 0 = true then _ else _)
      rw [if_neg (fun z => (p1_iff.mp z) rfl)]; exact m1, Fr.refl _ _ _⟩ (n := 1000) (by omega)
  obtain ⟨h1, -⟩ := id hW
  have f12 := f1.trans f2
  have hi : ∀ {ν : mM}, Fr 201 203 μ ν → ∀ q, (q = 200 ∨ (207 ≤ q ∧ q ≤ 212)) → mI ν q = mI μ q := fun {ν} hf q hq => (hf.2 q (by omega)).1
  obtain ⟨ν3, e3, m3, f3⟩ := mLoop_mem (b := s181L43 200 (nI x)) (μ := ν2) (fun i ν => RS ν (bN K G P O i (deN p1 8 (shN (pO A) 10 A))) ∧ Fr 201 203 ν2 ν) 1 N (fun i ν hlt hJ => by
    obtain ⟨m3, f3⟩ := hJ
    have hR := m3.1
    obtain ⟨k1, k2, k3⟩ := hPR.fr (hi (f12.trans f3))
    obtain ⟨z1, z2, z3, z4⟩ := k2 (1 + i) (by omega) (by omega)
    have z4' := z4 (fun z => by cases z.1)
    obtain ⟨ν', q1, q2, q3⟩ := k180 (r := i + 1) (p := P (i + 1)) (o := O (i + 1)) (k := K (i + 1)) (g := G (i + 1)) m3 (by omega)
    rw [Nat.add_comm i 1] at q1
    refine ⟨ν', ?_, q2, f3.trans q3⟩
    unfold s181L43
    refine iteT (by rw [RefL.s hR]) (iteF (by rw [k1, nI_ltI (by omega) (by omega)]; omega) ?_)
    refine ckA (q' := 209) (n := 8) (j := 1 + i) (RefL.r9 hR) (RefL.a9 hR) rfl (by omega) (by omega) ?_
    refine ckA (q' := 210) (n := 8) (j := 1 + i) (RefL.r10 hR) (RefL.a10 hR) rfl (by omega) (by omega) ?_
    refine ckA (q' := 207) (n := 8) (j := 1 + i) (RefL.r7 hR) (RefL.a7 hR) rfl (by omega) (by omega) ?_
    refine ckA (q' := 208) (n := 8) (j := 1 + i) (RefL.r8 hR) (RefL.a8 hR) rfl (by omega) (by omega) ?_
    refine bindS (v := ν') ?_ ?_
    · show s180 ν 200 (nI (1 + i)) (mI ν (mP ν 200 9) (Int32.toNatClampNeg (nI (1 + i)))) (mI ν (mP ν 200 10) (Int32.toNatClampNeg (nI (1 + i)))) (mI ν (mP ν 200 7) (Int32.toNatClampNeg (nI (1 + i)))) (mI ν (mP ν 200 8) (Int32.toNatClampNeg (nI (1 + i)))) = _
      rw [RefL.r9 hR, RefL.r10 hR, RefL.r7 hR, RefL.r8 hR, m_cl (by omega), z1, z2, z3, z4']
      exact q1
    · show some (Sum.inl (nI (1 + i) + 1, _)) = _
      rw [show nI (1 + i) + 1 = nI (1 + i + 1) from nI_add _ 1]) (fun ν hJ => by
    obtain ⟨m3, f3⟩ := hJ
    obtain ⟨k1, -⟩ := hPR.fr (hi (f12.trans f3))
    unfold s181L43
    refine iteT (by rw [RefL.s m3.1]) (iteT ?_ rfl)
    rw [k1, nI_ltI (by omega) (by omega)]; omega) ⟨m2, Fr.refl _ _ _⟩ (n := 1000) (by omega)
  exact ⟨x, ν3, ν1, ν2, e1, by omega, e2, e3, m3, f12.trans f3⟩
theorem op3 : Op3 (Inv L xs) := fun μ hI => by
  obtain ⟨⟨i1, i2⟩, ⟨A, ⟨hK, hC, hM, ht, hu⟩, hZ⟩, hT, hsl, hBZ⟩ := id hI
  obtain ⟨n, tx, n1, n2, n3, n4⟩ := TextOK_tx hT
  have hP := ClsL.pl hK
  obtain ⟨ν, e1, f1, pc1⟩ := j61 hP n1 n2 n3
  have eS : mS ν = mS μ := by show ν.2.2.2.2.1 = _; rw [f1.1]
  have eP : mP ν = mP μ := by show ν.2.2.2.1 = _; rw [f1.1]
  have eF : mF ν = mF μ := by show ν.2.1 = _; rw [f1.1]
  have rowP : ∀ q, ¬ (q = 3 ∨ (5 ≤ q ∧ q ≤ 10)) → mI ν q = mI μ q := fun q hq => by funext j; exact f1.2 q j (by omega)
  by_cases hv : vP tx n = -nI 10
  · -- the text is right
    obtain ⟨s, hs, hsU, hsA⟩ : ∃ s, pRun tx n 0 pS0 = .inr s ∧ s.2.2.1 = false ∧ s.2.1 = 0 := by
      unfold vP at hv
      cases hr : pRun tx n 0 pS0 with
      | inl j =>
        rw [hr] at hv
        have hj : j < 2 ^ 31 := by
          have : ∀ (k i : Nat) (s : PS) (j : Nat), pRun tx k i s = .inl j → j < i + k := by
            intro k
            induction k with
            | zero => intro i s j h; cases h
            | succ k ih =>
              intro i s j h
              unfold pRun at h
              cases q : pStep (tx i) s with
              | none => rw [q] at h; cases h; omega
              | some s1 => rw [q] at h; have := ih _ _ _ h; omega
          have := this n 0 pS0 j hr
          omega
        exact absurd hv (fun z => (nI_ng (k := 10) hj (by omega) (by omega)).mp z)
      | inr s =>
        rw [hr] at hv
        simp only at hv
        by_cases z : s.2.2.1 = true ∨ ¬ s.2.1 = 0
        · rw [if_pos z] at hv
          exact absurd hv (fun z => (nI_ng (k := 10) (by omega) (by omega) (by omega)).mp z)
        · refine ⟨s, rfl, ?_, ?_⟩
          · cases h : s.2.2.1
            · rfl
            · exact absurd (Or.inl h) z
          · exact Classical.byContradiction (fun y => z (Or.inr y))
    obtain ⟨N, X, U, M, K, G, P, O, D, T⟩ := s
    simp only at hsU hsA
    subst hsU hsA
    have hW := PW_run PW_0 hs
    have hN : N ≤ 7 := hW.1
    have hPC := pc1 _ hs
    have hKν : ClsL (mS ν) (mP ν) := by rw [eS, eP]; exact hK
    have hCν : CS ν 11 A := ⟨by rw [eS, eP]; exact hC.1, hC.2.congr (fun q a b => rowP q (by omega)) (fun q a b => by rw [eF])⟩
    obtain ⟨ν3, ν1, ν2, a1, a2, a3, a4, a5⟩ := j100 hW hPC hKν hCν ht hu
    have hAl := bldA_alone ht hu
    obtain ⟨hBI, -⟩ := bN_ok hW hAl N (Nat.le_refl _)
    have hsum := BI_sum hBI hN
    obtain ⟨bt, bu, -⟩ := id hBI
    have hK3 := hKν.fr a5.1
    have fr4 : Fr 3 4 ν3 (mUI ν3 3 1 (nI 0)) := Fr_UI _ (by omega) (by omega) _ _
    have c4 : CS (mUI ν3 3 1 (nI 0)) 11 (bN K G P O N (deN p1 8 (shN (pO A) 10 A))) := a4.fr fr4 (by omega)
    have hK4 := hK3.fr fr4
    -- the class's answer
    have cls : s100 μ 2 = some (nI (N + 1), mUI ν3 3 1 (nI 0)) := by
      unfold s100
      refine iteT (by rw [ClsL.s hK]) (iteT (by rw [ClsL.p0 hK, hP.1]) (bindS (v := (vP tx n, ν)) (by rw [ClsL.p0 hK]; exact e1) (iteT hv (bindS a1 ?_))))
      refine bindS a2 ?_
      refine bindS a3 ?_
      show s100_77 2 ν3 = _
      unfold s100_77
      refine iteT (by rw [ClsL.s hK3]) (iteT (by rw [ClsL.p0 hK3, (ClsL.pl hK3).1]) (bindS (v := mUI ν3 3 1 (nI 0)) (by rw [ClsL.p0 hK3]; rfl) (iteT (by rw [ClsL.p1 hK4, FabL.s0 c4.1]) (bindS (v := nI (N + 1)) ?_ rfl))))
      rw [ClsL.p1 hK4, j19 c4 bt, hsum]
    -- the reference
    have rowC : ∀ q, (q < 3 ∨ q = 4 ∨ 192 ≤ q) → mI (mUI ν3 3 1 (nI 0)) q = mI μ q ∧ mF (mUI ν3 3 1 (nI 0)) q = mF μ q := fun q hq => by
      refine ⟨?_, ?_⟩
      · rw [(fr4.2 q (by omega)).1, (a5.1.2 q (by omega)).1]; exact rowP q (by omega)
      · rw [(fr4.2 q (by omega)).2, (a5.1.2 q (by omega)).2, eF]
    have st4 : (mUI ν3 3 1 (nI 0)).2.2.2 = μ.2.2.2 := by show ν3.2.2.2 = _; rw [a5.1.1, f1.1]
    generalize hκ : mUI ν3 3 1 (nI 0) = κ at *
    have kS : mS κ = mS μ := by show κ.2.2.2.2.1 = _; rw [st4]
    have kP : mP κ = mP μ := by show κ.2.2.2.1 = _; rw [st4]
    have hMκ : RS κ A := by
      unfold RS; rw [kS, kP, (rowC 201 (by omega)).1, (rowC 202 (by omega)).2]; exact hM
    have hTR : TxR κ n tx := ⟨by rw [(rowC 200 (by omega)).1]; exact n4.1, fun j hj => by rw [(rowC 206 (by omega)).1]; exact n4.2 j hj⟩
    obtain ⟨ρ, r1, r2, r3⟩ := k177 hMκ.1 n1 n2 hTR
    have hPR := r3 _ hs hv
    have rS : mS ρ = mS κ := by show ρ.2.2.2.2.1 = _; rw [r2.1]
    have rP : mP ρ = mP κ := by show ρ.2.2.2.1 = _; rw [r2.1]
    have rF : mF ρ = mF κ := by show ρ.2.1 = _; rw [r2.1]
    have rowQ : ∀ q, ¬ (q = 200 ∨ (207 ≤ q ∧ q ≤ 212)) → mI ρ q = mI κ q := fun q hq => by funext j; exact r2.2 q j (by omega)
    have hMρ : RS ρ A := by
      unfold RS; rw [rS, rP, rF, rowQ 201 (by omega)]; exact hMκ
    obtain ⟨x, ρ3, ρ1, ρ2, b1, b2, b3, b4, b5, b6⟩ := k181 hW hPR hMρ ht hu
    have hR3 := b5.1
    have k11 : mI ρ3 200 11 = nI N := by rw [(b6.2 200 (by omega)).1]; exact hPR.1
    have ref : s181 κ 200 = some (nI (N + 1), mUI ρ3 200 6 (nI 0)) := by
      unfold s181
      refine iteT (by rw [RefL.s hMκ.1]) (bindS r1 (iteT hv (bindS b1 ?_)))
      refine bindS b3 ?_
      refine bindS b4 ?_
      show (if 0 ≤ nI x then s181_75 200 ρ3 0 200 else _) = _
      refine iteT (by rw [L_0, nI_leI (by omega) (by omega)]; omega) ?_
      unfold s181_75
      refine iteT (by rw [RefL.s hR3]) (bindS (v := mUI ρ3 200 6 (nI 0)) rfl (iteT (by rw [mS_UI, RefL.s hR3]) ?_))
      rw [mI_UI, if_neg (by omega), k11]
      show some (nI N + 1, _) = _
      rw [show nI N + 1 = nI (N + 1) from nI_add _ 1]
    have fr6 : Fr 200 201 ρ3 (mUI ρ3 200 6 (nI 0)) := Fr_UI _ (by omega) (by omega) _ _
    have rowR : ∀ q, (q < 200 ∨ (203 ≤ q ∧ q < 207) ∨ 213 ≤ q) → mI (mUI ρ3 200 6 (nI 0)) q = mI κ q ∧ mF (mUI ρ3 200 6 (nI 0)) q = mF κ q := fun q hq => by
      refine ⟨?_, ?_⟩
      · rw [(fr6.2 q (by omega)).1, (b6.2 q (by omega)).1]; exact rowQ q (by omega)
      · rw [(fr6.2 q (by omega)).2, (b6.2 q (by omega)).2, rF]
    have st6 : (mUI ρ3 200 6 (nI 0)).2.2.2 = κ.2.2.2 := by show ρ3.2.2.2 = _; rw [b6.1, r2.1]
    have m6 : RS (mUI ρ3 200 6 (nI 0)) (bN K G P O N (deN p1 8 (shN (pO A) 10 A))) := b5.fr fr6 (by omega)
    have tx6 : mI (mUI ρ3 200 6 (nI 0)) 200 6 = nI 0 := by rw [mI_UI, if_pos ⟨rfl, rfl⟩]
    generalize mUI ρ3 200 6 (nI 0) = ω at *
    have oS : mS ω = mS μ := by have : mS ω = mS κ := by { show ω.2.2.2.2.1 = _; rw [st6] }
                                rw [this, kS]
    have oP : mP ω = mP μ := by have : mP ω = mP κ := by { show ω.2.2.2.1 = _; rw [st6] }
                                rw [this, kP]
    have tz : ∀ a, a < 10 → ¬ aT (bN K G P O N (deN p1 8 (shN (pO A) 10 A))) a 0 = 1 := fun a ha z => by
      have y : aT (bN K G P O N (deN p1 8 (shN (pO A) 10 A))) a 0 = aT (deN p1 8 (shN (pO A) 10 A)) a 0 := congrFun (congrFun (bN_T N).1 a) 0
      rw [y, hAl.2.2.1 a ha] at z; omega
    refine ⟨nI (N + 1), κ, ω, cls, ⟨by rw [kS], (rowC 1 (by omega)).1, by rw [kS, RefL.s hM.1]⟩, ref, ⟨by rw [oS]; exact i1, by rw [(rowR 1 (by omega)).1, (rowC 1 (by omega)).1]; exact i2⟩, ⟨_, ⟨by rw [oS, oP]; exact hK, ⟨by rw [oS, oP]; exact hC.1, c4.2.congr (fun q a b => (rowR q (by omega)).1) (fun q a b => (rowR q (by omega)).2)⟩, m6, bt, bu⟩, fun t d k a b => absurd b (tz t a)⟩, ⟨0, by omega, ?_, tx6, fun j hj => by omega⟩, hsl.cg (st6.trans st4) (fun q hq => ⟨by rw [(rowR q (by omega)).1, (rowC q (by omega)).1], by rw [(rowR q (by omega)).2, (rowC q (by omega)).2]⟩), ?_⟩
    · rw [(rowR 3 (by omega)).1, ← hκ, mI_UI, if_pos ⟨rfl, rfl⟩]
    · have hb : BZ (mI ν) 11 := hBZ.cg (fun r hr => by rw [rowP _ (by unfold ro; omega)]) (fun t d a b => by rw [rowP _ (by unfold wy; omega)])
      have hb3 := (a5.2.2 hb).fr fr4 (by omega)
      exact hb3.cg (fun r hr => by rw [(rowR _ (by unfold ro; omega)).1]) (fun t d a b => by rw [(rowR _ (by unfold wy; omega)).1])
  · -- it has a fault
    obtain ⟨ρ, e2, f2, -⟩ := k177 (hM.1.fq f1.1) n1 n2 (n4.fp f1)
    refine ⟨-nI 8, ν, ρ, ?_, ⟨by rw [eS], rowP 1 (by omega), by rw [eS, RefL.s hM.1]⟩, ?_, Inv_cgP hI (f2.1.trans f1.1) (fun q j hq => by rw [f2.2 q j (by omega), f1.2 q j (by omega)])⟩
    · show s100 μ 2 = _
      unfold s100
      exact iteT (by rw [ClsL.s hK]) (iteT (by rw [ClsL.p0 hK, hP.1]) (bindS (by rw [ClsL.p0 hK]; exact e1) (iteF hv rfl)))
    · show s181 ν 200 = _
      unfold s181
      exact iteT (by rw [eS, RefL.s hM.1]) (bindS e2 (iteF hv rfl))
end BO2
