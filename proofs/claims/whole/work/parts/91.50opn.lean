/-! open -/
section OO
variable {μ ν : mM} {A : Ab} {k v w : Nat} {L : Nat} {xs : Nat → Int32}
theorem op13 : Op13 (Inv L xs) := fun x y z => CI_op fun μ A hS hZ => by
  obtain ⟨hK, hC, hM, ht, hu⟩ := hS
  have hR := hM.1
  have hF := hC.1
  have s8 : (mS μ 2).1 = 8 := by rw [ClsL.s hK]
  have sF : (mS μ (mP μ 2 1)).1 = 1 := by rw [ClsL.p1 hK, FabL.s0 hF]
  have s9 : (mS μ 200).1 = 9 := by rw [RefL.s hR]
  have stay : ∀ (e : Int32), s110 μ 2 x y z = some (e, μ) → s198 μ 200 x y z = some (e, μ) → ∃ v μ1 μ2 A', s110 μ 2 x y z = some (v, μ1) ∧ FrC μ μ1 ∧ CS μ1 11 A' ∧ SZ (mI μ1) 11 A' ∧ s198 μ1 200 x y z = some (v, μ2) ∧ FrR μ1 μ2 ∧ RS μ2 A' ∧ WFt A' ∧ WFu A' := fun e h1 h2 => ⟨e, μ, μ, A, h1, FrC.refl _, hC, hZ, h2, FrR.refl _, hM, ht, hu⟩
  rcases btw μ x 0 2 (by omega) (by omega) with ⟨k, rfl, -, hk, b1, b2⟩ | ⟨-, b1, b2⟩
  · have router : (∃ v, y = nI v ∧ v < 8 ∧ aR A v 0 = 1 ∧ s14 μ 11 y = some (nI 1)) ∨ (s14 μ 11 y = some (nI 0) ∧ s150 μ 200 y = some (nI 0)) := by
      rcases rng y 0 7 (by omega) (by omega) with ⟨v, -, hv, rfl⟩ | hy
      · by_cases hp : aR A v 0 = 1
        · exact Or.inl ⟨v, rfl, by omega, hp, by rw [j14 hC (by omega) (by omega), hp]; rfl⟩
        · have hl := ht.le1 (r := v) (by omega)
          exact Or.inr ⟨by rw [j14 hC (by omega) hl]; simp [hp, bI], by rw [k150 hM (by omega) hl]; simp [hp, bI]⟩
      · exact Or.inr ⟨j14o hy, k150o hM hy⟩
    rcases router with ⟨v, rfl, hv, hp, l1⟩ | ⟨l1, l2⟩
    · have l2 : ∀ {ν : mM}, RS ν A → s150 ν 200 (nI v) = some (nI 1) := fun {ν} h => by rw [k150 h hv (by omega), hp]; rfl
      rcases btw μ z 1 12 (by omega) (by omega) with ⟨w, rfl, hw1, hw, c1, c2⟩ | ⟨-, c1, c2⟩
      · have hkv := kind_le ht hv hp
        have inC : ∀ {R}, ((s39 μ (mP μ 2 1) (nI k) (nI v)).bind fun q9 => if ¬ q9 = 0 then (s110_33 2 (nI k) (nI v) (nI w) μ q9) else ((s43 μ (mP μ 2 1) (nI k) (nI v) (nI w)).bind fun q11 => s110_33 2 (nI k) (nI v) (nI w) q11.2 q11.1)) = R → s110 μ 2 (nI k) (nI v) (nI w) = R := fun {R} hR => by
          unfold s110
          exact bindS b1 (iteF (by decide) (iteT s8 (iteT sF (bindS (by rw [ClsL.p1 hK]; exact l1) (iteF (by decide) (bindS c1 (iteT (by decide) hR)))))))
        have inR : ∀ {ν : mM} {R}, RS ν A → (if nI (aR A v 1) = (nI k + 1) then ((s196 ν 200 (nI k)).bind fun q10 => if ¬ nI k = 0 then (s198_34 200 (nI k) (nI v) (nI w) ν 4 q10) else (s198_34 200 (nI k) (nI v) (nI w) ν 2 q10)) else (some ((-2), ν))) = R → s198 ν 200 (nI k) (nI v) (nI w) = R := fun {ν R} hMν hR => by
          unfold s198
          exact bindS (v := nI 1) (by show s144 ν (nI k) (nI 0) (nI 2) = _; rw [k144 (by omega) (by omega) (by omega)]; simp [hk, bI]) (iteF (by decide) (iteT (by rw [RefL.s hMν.1]) (bindS (l2 hMν) (iteF (by decide) (bindS (v := nI 1) (by show s144 ν (nI w) (nI 1) (nI 12) = _; rw [k144 (by omega) (by omega) (by omega)]; simp [hw1, hw, bI]) (iteT (by decide) (bindS (k148 hMν hv (k := 1) (by omega)) hR)))))))
        have kk : nI k + 1 = nI (k + 1) := nI_add _ 1
        have in39 : ∀ {R}, (if nI (aR A v 1) = nI (k + 1) then ((s40 μ 11 (nI k)).bind fun q7 => (s139 μ (nI k)).bind fun q9 => if q9 ≤ q7 then (s39_20 μ 11 (nI k) (nI v)) else ((s41 μ 11 (nI k) (nI v)).bind fun q11 => if ¬ q11 = 0 then ((s42 μ 11 (nI k) (nI v)).bind fun q13 => if ¬ q13 = 0 then (if ¬ nI k = 0 then (s39_37 μ 11 (nI k) (nI v)) else ((s31 μ 11 (nI v)).bind fun q15 => if 0 < q15 then (s39_37 μ 11 (nI k) (nI v)) else (s39_38 μ 11 (nI k) (nI v) (-7)))) else (some (-6))) else (s39_20 μ 11 (nI k) (nI v)))) else (some (-2))) = R → s39 μ (mP μ 2 1) (nI k) (nI v) = R := fun {R} hR => by
          rw [ClsL.p1 hK]
          unfold s39
          refine iteT (by rw [FabL.s0 hF]) (bindS (j18 hF hv) (iteT (by rw [FabL.rs hF hv]) (bindS (j138 hk) ?_)))
          rw [RepC.r1 hC.2 hv hp]
          exact hR
        by_cases e1 : aR A v 1 = k + 1
        · have e1' : nI (aR A v 1) = nI (k + 1) := by rw [e1]
          have hbay := hu.bay (k := k) (by omega)
          have hb4 : (if k = 0 then 2 else 4) ≤ 4 := by split <;> omega
          have in34 : ∀ {ν : mM} {R}, RS ν A → s198_34 200 (nI k) (nI v) (nI w) ν (nI (if k = 0 then 2 else 4)) (nI (opN A k)) = R → s198 ν 200 (nI k) (nI v) (nI w) = R := fun {ν R} hMν hR => by
            refine inR hMν (iteT (by rw [kk]; exact e1') (bindS (k196 hMν hu (by omega)) ?_))
            by_cases zk : k = 0
            · rw [if_pos zk] at hR; exact iteF (by rw [zk]; decide) hR
            · rw [if_neg zk] at hR; exact iteT (by rw [L_0, nI_eq (by omega) (by omega)]; exact zk) hR
          by_cases e2 : opN A k < (if k = 0 then 2 else 4)
          · have inB : ∀ {R}, ((s41 μ 11 (nI k) (nI v)).bind fun q11 => if ¬ q11 = 0 then ((s42 μ 11 (nI k) (nI v)).bind fun q13 => if ¬ q13 = 0 then (if ¬ nI k = 0 then (s39_37 μ 11 (nI k) (nI v)) else ((s31 μ 11 (nI v)).bind fun q15 => if 0 < q15 then (s39_37 μ 11 (nI k) (nI v)) else (s39_38 μ 11 (nI k) (nI v) (-7)))) else (some (-6))) else (s39_20 μ 11 (nI k) (nI v))) = R → s39 μ (mP μ 2 1) (nI k) (nI v) = R := fun {R} hR => by
              refine in39 (iteT e1' (bindS (j40 hC hu (by omega)) (bindS (j139 hk) (iteF ?_ hR))))
              rw [nI_leI (by omega) (by omega)]; omega
            have inR2 : ∀ {ν : mM} {R}, RS ν A → ((s197 ν 200 (nI k) (nI v) 1).bind fun q13 => if ¬ q13 = 0 then (s198_52 200 (nI k) (nI v) (nI w) ν q13) else ((s197 ν 200 (nI k) (nI v) 0).bind fun q68 => s198_52 200 (nI k) (nI v) (nI w) ν q68)) = R → s198 ν 200 (nI k) (nI v) (nI w) = R := fun {ν R} hMν hR => by
              refine in34 hMν ?_
              unfold s198_34
              refine iteT ?_ (iteT (by rw [RefL.s hMν.1]) hR)
              rw [nI_eq (by omega) (by omega)]; omega
            rcases j41 hC ht hu hk hv hp with ⟨n1, n2⟩ | ⟨n1, n2⟩
            · -- no hop number
              rcases k197 (m := 1) hM ht hu hk (by omega) hv hp with ⟨m1, m2⟩ | ⟨m1, m2⟩
              · refine stay (-5) (inC (bindS (v := -5) (inB (bindS n1 (iteF (by decide) rfl))) (iteT (by decide) rfl))) (inR2 hM (bindS (v := -5) m1 (iteT (by decide) ?_)))
                unfold s198_52
                exact iteF (by decide) rfl
              · obtain ⟨i, hi, hb⟩ := n2
                have := m2 i hi
                rw [if_neg (by omega)] at this
                exact absurd hb this
            · have m1 : ∀ {ν : mM}, RS ν A → s197 ν 200 (nI k) (nI v) 1 = some (nI 0) := fun {ν} hMν => by
                rcases k197 (m := 1) hMν ht hu hk (by omega) hv hp with ⟨m1, i, hi, hb⟩ | ⟨m1, m2⟩
                · rw [if_neg (by omega)] at hb
                  exact absurd hb (n2 i hi)
                · exact m1
              rcases j42 hC ht hu hk hv hp with ⟨p1, p2⟩ | ⟨p1, p2⟩
              · -- no credit
                rcases k197 (m := 0) hM ht hu hk (by omega) hv hp with ⟨q1, q2⟩ | ⟨q1, q2⟩
                · refine stay (-6) (inC (bindS (v := -6) (inB (bindS n1 (iteT (by decide) (bindS p1 (iteF (by decide) rfl))))) (iteT (by decide) rfl))) (inR2 hM (bindS (m1 hM) (iteF (by decide) (bindS (v := -6) q1 ?_))))
                  unfold s198_52
                  exact iteF (by decide) rfl
                · obtain ⟨i, hi, hb⟩ := p2
                  have := q2 i hi
                  rw [if_pos rfl] at this
                  exact absurd hb this
              · have q1 : ∀ {ν : mM}, RS ν A → s197 ν 200 (nI k) (nI v) 0 = some (nI 0) := fun {ν} hMν => by
                  rcases k197 (m := 0) hMν ht hu hk (by omega) hv hp with ⟨m1, i, hi, hb⟩ | ⟨m1, m2⟩
                  · rw [if_pos rfl] at hb
                    exact absurd hb (p2 i hi)
                  · exact m1
                have hm := rmK_le (A := A) (d := v) (dep A v)
                have inC2 : ∀ {R}, (if ¬ nI k = 0 then (s39_37 μ 11 (nI k) (nI v)) else ((s31 μ 11 (nI v)).bind fun q15 => if 0 < q15 then (s39_37 μ 11 (nI k) (nI v)) else (s39_38 μ 11 (nI k) (nI v) (-7)))) = R → s39 μ (mP μ 2 1) (nI k) (nI v) = R := fun {R} hR => inB (bindS n1 (iteT (by decide) (bindS p1 (iteT (by decide) hR))))
                have inR3 : ∀ {ν : mM} {R}, RS ν A → (if ¬ nI k = 0 then (s198_67 200 (nI k) (nI v) (nI w) ν (nI (rmK A v (dep A v)))) else (if ¬ nI (rmK A v (dep A v)) = 0 then (s198_67 200 (nI k) (nI v) (nI w) ν (nI (rmK A v (dep A v)))) else (some ((-7), ν)))) = R → s198 ν 200 (nI k) (nI v) (nI w) = R := fun {ν R} hMν hR => by
                  refine inR2 hMν (bindS (m1 hMν) (iteF (by decide) (bindS (q1 hMν) ?_)))
                  unfold s198_52
                  exact iteT rfl (iteT (by rw [RefL.s hMν.1]) (bindS (k169 hMν ht hu hv hp) hR))
                by_cases e3 : k = 0 ∧ rmK A v (dep A v) = 0
                · obtain ⟨zk, zr⟩ := e3
                  refine stay (-7) (inC (bindS (v := -7) (inC2 (iteF (by rw [zk]; decide) (bindS (j31 hC ht hu hv hp) (iteF ?_ rfl)))) (iteT (by decide) rfl))) (inR3 hM (iteF (by rw [zk]; decide) (iteF (by rw [zr]; decide) rfl)))
                  rw [zr]; decide
                · have hO : OpOK A (lcN A) k v w := by
                    refine ⟨lcN_lt hu hk e2, lcN_le.2.1 (lcN_lt hu hk e2), hk, hv, hp, e1, hw1, hw, e2, fun i d hi hd hdk => ?_⟩
                    have a1 := n2 i hi
                    have a2 := p2 i hi
                    have : d = 0 ∨ d = 1 := by omega
                    rcases this with e | e <;> subst e
                    · exact ⟨fun y => a1 (Or.inl y), fun y => a2 (Or.inl y)⟩
                    · have zk : ¬ k = 0 := fun y => hdk ⟨rfl, y⟩
                      exact ⟨fun y => a1 (Or.inr ⟨zk, y⟩), fun y => a2 (Or.inr ⟨zk, y⟩)⟩
                  have c39 : s39 μ (mP μ 2 1) (nI k) (nI v) = some (nI 0) := by
                    refine inC2 ?_
                    by_cases zk : k = 0
                    · refine iteF (by rw [zk]; decide) (bindS (j31 hC ht hu hv hp) (iteT ?_ rfl))
                      rw [L_0, nI_ltI (by omega) (by omega)]
                      have : ¬ rmK A v (dep A v) = 0 := fun y => e3 ⟨zk, y⟩
                      omega
                    · exact iteT (by rw [L_0, nI_eq (by omega) (by omega)]; exact zk) rfl
                  obtain ⟨ν, g1, g2, g3, g4, g5⟩ := j43 hO hC ht hu hZ
                  have hFC : FrC μ ν := ⟨g4.mono (by omega) (by omega), g5⟩
                  have hMν := hFC.rs hM
                  obtain ⟨ρ, r1, r2, r3⟩ := k198 hO hMν ht hu
                  obtain ⟨w1, w2⟩ := opA_wf hO ht hu
                  refine ⟨nI (lcN A), ν, ρ, _, inC (bindS c39 (iteF (by decide) (bindS (by rw [ClsL.p1 hK]; exact g1) rfl))), hFC, g2, g3, inR3 hMν ?_, Fr.R r3 (by omega), r2, w1, w2⟩
                  by_cases zk : k = 0
                  · refine iteF (by rw [zk]; decide) (iteT ?_ r1)
                    rw [L_0, nI_eq (by omega) (by omega)]
                    exact fun y => e3 ⟨zk, y⟩
                  · exact iteT (by rw [L_0, nI_eq (by omega) (by omega)]; exact zk) r1
          · refine stay (-5) (inC (bindS (v := -5) (in39 (iteT e1' (bindS (j40 hC hu (by omega)) (bindS (j139 hk) (iteT ?_ rfl))))) (iteT (by decide) rfl))) (in34 hM ?_)
            · rw [nI_leI (by omega) (by omega)]; omega
            · unfold s198_34
              refine iteF ?_ rfl
              rw [nI_eq (by omega) (by omega)]; omega
        · have e1' : ¬ nI (aR A v 1) = nI (k + 1) := by rw [nI_eq (by omega) (by omega)]; exact e1
          exact stay (-2) (inC (bindS (v := -2) (in39 (iteF e1' rfl)) (iteT (by decide) rfl))) (inR hM (iteF (by rw [kk]; exact e1') rfl))
      · refine stay (-1) ?_ ?_
        · unfold s110
          exact bindS b1 (iteF (by decide) (iteT s8 (iteT sF (bindS (by rw [ClsL.p1 hK]; exact l1) (iteF (by decide) (bindS c1 (iteF (by decide) rfl)))))))
        · unfold s198
          exact bindS b2 (iteF (by decide) (iteT s9 (bindS (l2 hM) (iteF (by decide) (bindS c2 (iteF (by decide) rfl))))))
    · refine stay (-1) ?_ ?_
      · unfold s110
        exact bindS b1 (iteF (by decide) (iteT s8 (iteT sF (bindS (by rw [ClsL.p1 hK]; exact l1) (iteT rfl rfl)))))
      · unfold s198
        exact bindS b2 (iteF (by decide) (iteT s9 (bindS l2 (iteT rfl rfl))))
  · refine stay (-1) ?_ ?_
    · unfold s110
      exact bindS b1 (iteT rfl rfl)
    · unfold s198
      exact bindS b2 (iteT rfl rfl)
end OO
