/-! plug -/
section PL
variable {μ μ' : mM} {A A' : Ab} {r k t d h q : Nat} {L : Nat} {xs : Nat → Int32}
/-- a port, or not: both sides say so -/
theorem prt (hC : CS μ 11 A) (hM : RS μ A) (ht : WFt A) (x y : Int32) : (∃ p o, x = nI p ∧ y = nI o ∧ p < 8 ∧ aR A p 0 = 1 ∧ o < portsK (aR A p 1) ∧ s16 μ 11 x y = some (nI 1)) ∨ (s16 μ 11 x y = some (nI 0) ∧ (s150 μ 200 x = some (nI 0) ∨ ∃ p, x = nI p ∧ p < 8 ∧ aR A p 0 = 1 ∧ s150 μ 200 x = some (nI 1) ∧ s144 μ y (nI 0) (nI (portsK (aR A p 1)) - nI 1) = some (nI 0))) := by
  have hF := hC.1
  have hR := hM.1
  rcases rng x 0 7 (by omega) (by omega) with ⟨r, -, hr, rfl⟩ | hx
  · have hl := ht.le1 (r := r) (by omega)
    by_cases hp : aR A r 0 = 1
    · have hk := kind_le ht (by omega) hp
      have hb := portsK_le (aR A r 1)
      have s1 : s150 μ 200 (nI r) = some (nI 1) := by rw [k150 hM (by omega) hl, hp]; rfl
      rcases rng y 0 2147483647 (by omega) (by omega) with ⟨p, -, hp2, rfl⟩ | hy
      · by_cases e : p < portsK (aR A r 1)
        · refine Or.inl ⟨r, p, rfl, rfl, by omega, hp, e, ?_⟩
          rw [j16 hC ht (by omega) (by omega), hp]; simp [e, bI]
        · refine Or.inr ⟨?_, Or.inr ⟨r, rfl, by omega, hp, s1, ?_⟩⟩
          · rw [j16 hC ht (by omega) (by omega), hp]; simp [e, bI]
          · by_cases h0 : portsK (aR A r 1) = 0
            · rw [h0]
              exact k144o (Or.inr ((ng_lt_nI (a := p) (k := 1) (by omega) (by omega) (by omega)).mpr trivial))
            · rw [nI_sub (by omega)]
              exact k144o (Or.inr ((nI_ltI (by omega) (by omega)).mpr (by omega)))
      · have hy' : y < nI 0 := by
          rcases hy with h | h
          · exact h
          · exfalso
            rw [Int32.lt_iff_toInt_lt, nI_toInt (by omega)] at h
            have := Int32.toInt_lt y
            omega
        exact Or.inr ⟨j16p hC ht (by omega) hy', Or.inr ⟨r, rfl, by omega, hp, s1, k144o (Or.inl hy')⟩⟩
    · refine Or.inr ⟨?_, Or.inl ?_⟩
      · have hp' : (aR A r 0 == 1) = false := by simp [hp]
        simp (disch := omega) only [s16_17, s16_16, s16, FabL.s0 hF, FabL.p0 hF, FabL.p1 hF, FabL.s1 hF, FabL.s2 hF, FabL.r hF, FabL.rs hF, FabL.rl hF, FabL.ls hF, FabL.l5 hF, FabL.l6 hF, FabL.l7 hF, FabL.l8 hF, FabL.q2 hF, FabL.q3 hF, FabL.q4 hF, FabL.q5 hF, FabL.tp hF, FabL.ts hF, FabL.td hF, FabL.tw hF, FabL.ws hF, FabL.w4 hF, FabL.w5 hF, FabL.w6 hF, FabL.w7 hF, FabL.w8 hF, FabL.v1 hF, FabL.v2 hF, FabL.v3 hF, FabL.v4 hF, FabL.v5 hF, j14 hC, Option.bind_some, Sum.elim_inl, Sum.elim_inr, reduceIte, if_true, if_false, ite_true, ite_false, not_true_eq_false, not_false_eq_true, or_true, true_or, or_false, false_or, and_true, true_and, and_false, false_and, eq_self, ne_eq, Nat.reduceAdd, Nat.reduceMul, Nat.le_refl, ite_self, Nat.reduceEqDiff, Nat.reduceLeDiff, Nat.reduceLT, L_0, L_1, L_2, L_3, L_4, L_5, L_6, L_7, L_8, L_9, L_10, L_11, L_12, L_13, L_14, L_15, L_16, L_24, L_31, L_40, L_48, L_49, L_50, L_51, L_60, L_72, L_99, L_127, L_132, L_172, L_412, L_428, L_429, L_430, L_431, L_432, L_433, L_1000, nI_add, nI_mul, nI_leI, nI_ltI, nI_eq, m_cl, mInb_iff, nI_ng, ng_nI, ng_ng, nI_lt_ng, ng_lt_nI, nI_le_ng, ng_le_nI, hp', bI_0]
      · rw [k150 hM (by omega) hl]; simp [hp, bI]
  · exact Or.inr ⟨j16o hC hx, Or.inl (k150o hM hx)⟩
theorem labN_le : 1 ≤ labN A ∧ labN A ≤ 8 ∧ (labN A < 8 → aR A (labN A) 0 = 0) ∧ ∀ j, 1 ≤ j → j < labN A → ¬ aR A j 0 = 0 := by
  unfold labN
  rcases ff_spec (fun r => aR A r 0 == 0) 7 1 with ⟨h1, h2, h3, h4⟩ | ⟨h1, h2⟩
  · exact ⟨h1, by omega, fun _ => by simpa using h3, fun j a b => by simpa using h4 j a b⟩
  · rw [h1]; exact ⟨by omega, by omega, fun z => by omega, fun j a b => by simpa using h2 j a (by omega)⟩
theorem labN_8 (ht : WFt A) : sumN (fun r => aR A r 0) 8 = 8 ↔ labN A = 8 := by
  obtain ⟨h1, h2, h3, h4⟩ := labN_le (A := A)
  constructor
  · intro e
    apply Classical.byContradiction
    intro z
    have z0 := h3 (by omega)
    have := sumN_lt (g := fun r => aR A r 0) (h := fun _ => 1) (t := labN A) (n := 8) (by omega) (fun i hi => ht.le1 hi) (by show aR A (labN A) 0 < 1; omega)
    rw [sumN_const] at this
    omega
  · intro e
    have := sumN_congr (g := fun r => aR A r 0) (h := fun _ => 1) (n := 8) (fun i hi => by
      have hl := ht.le1 hi
      show aR A i 0 = 1
      by_cases z : i = 0
      · rw [z]; exact ht.p0
      · have := h4 i (by omega) (by omega); omega)
    rw [this, sumN_const]
theorem SZ_add {f p o g : Nat} (hA : AddOK A r p o k g) (ht : WFt A) (hu : WFu A) (hz : SZ (mI μ) f A) (hf : FrF f μ μ') : SZ (mI μ') f (addA A r p o k g) := by
  intro t d j a b c e
  rw [hf.2.1 t d a c]
  rw [wN_add hA ht hu a b] at e
  exact hz t d j a b c e
theorem inP_8 {p : Nat} (h : inP A r p = 8) : ∀ q, 1 ≤ q → q < 8 → aR A q 0 = 1 → ¬ (aR A q 3 = r ∧ aR A q 4 = p) := by
  intro q q1 q2 hq hn
  rcases ff_spec (fun k => (aR A k 0 == 1) && (aR A k 3 == r) && (aR A k 4 == p)) 7 1 with ⟨h1, h2, -⟩ | ⟨-, h2⟩
  · unfold inP at h; omega
  · have := h2 q q1 (by omega)
    simp [hq, hn.1, hn.2] at this
theorem op4 : Op4 (Inv L xs) := fun x y z w => CI_op fun μ A hS hZ => by
  obtain ⟨hK, hC, hM, ht, hu⟩ := hS
  have hR := hM.1
  have hF := hC.1
  have s1 := ClsL.s hK
  have s2 := ClsL.p1 hK
  have s3 := FabL.s0 hF
  have s8 : (mS μ 2).1 = 8 := by rw [s1]
  have sF : (mS μ (mP μ 2 1)).1 = 1 := by rw [s2, s3]
  have s9 : (mS μ 200).1 = 9 := by rw [RefL.s hR]
  have stay : ∀ (v : Int32), s101 μ 2 x y z w = some (v, μ) → s184 μ 200 x y z w = some (v, μ) → ∃ v μ1 μ2 A', s101 μ 2 x y z w = some (v, μ1) ∧ FrC μ μ1 ∧ CS μ1 11 A' ∧ SZ (mI μ1) 11 A' ∧ s184 μ1 200 x y z w = some (v, μ2) ∧ FrR μ1 μ2 ∧ RS μ2 A' ∧ WFt A' ∧ WFu A' := fun v h1 h2 => ⟨v, μ, μ, A, h1, FrC.refl _, hC, hZ, h2, FrR.refl _, hM, ht, hu⟩
  rcases prt hC hM ht x y with ⟨p, o, rfl, rfl, hp, hpp, hop, l1⟩ | ⟨l1, l2⟩
  · rcases btw μ z 0 3 (by omega) (by omega) with ⟨k, rfl, -, hk, b1, b2⟩ | ⟨-, b1, b2⟩
    · rcases btw μ w 1 3 (by omega) (by omega) with ⟨g, rfl, hg1, hg, c1, c2⟩ | ⟨-, c1, c2⟩
      · have hkp := kind_le ht hp hpp
        have hpk := portsK_le (aR A p 1)
        have hiP := inP_le (A := A) (r := p) (p := o)
        have d4 := ht.dep4 hp hpp
        obtain ⟨n1, n2, n3, n4⟩ := labN_le (A := A)
        have inC : ∀ {R}, ((s23 μ (mP μ 2 1) (nI p) (nI o)).bind fun q9 => if q9 = (-1) then ((s18 μ (mP μ 2 1) (nI p)).bind fun q11 => if (mS μ q11).1 = 4 then if (mI μ q11 5) < 4 then ((s22 μ (mP μ 2 1)).bind fun q14 => if ¬ q14 = (-1) then ((s25 μ (mP μ 2 1) q14 (nI p) (nI o) (nI k) (nI g)).bind fun q16 => some (q14, q16)) else (some ((-5), μ))) else (some ((-4), μ)) else none) else (some ((-3), μ))) = R → s101 μ 2 (nI p) (nI o) (nI k) (nI g) = R := fun {R} hR => by
          unfold s101
          exact iteT s8 (iteT sF (bindS (by rw [s2]; exact l1) (iteF (by decide) (bindS b1 (iteF (by decide) (bindS c1 (iteT (by decide) hR)))))))
        have inR : ∀ {ν : mM} {R}, RS ν A → ((s182 ν 200 (nI p) (nI o)).bind fun q14 => if q14 = (-10) then ((s152 ν 200 (nI p)).bind fun q16 => if ¬ q16 = 4 then ((s183 ν 200).bind fun q18 => if ¬ q18 = 8 then ((mLoop (s184L52 ν 200 (nI p) (nI o) (nI k) (nI g)) 1000 1).bind fun o24 => Sum.elim (fun x25 => if (mS ν 200).1 = 9 then (s180 ν 200 x25 (nI p) (nI o) (nI k) (nI g)).bind fun q29 => some (x25, q29) else none) (fun y26 => some y26) o24) else (some ((-5), ν))) else (some ((-4), ν))) else (some ((-3), ν))) = R → s184 ν 200 (nI p) (nI o) (nI k) (nI g) = R := fun {ν R} hMν hR => by
          unfold s184
          refine iteT (by rw [RefL.s hMν.1]) (bindS (v := nI 1) (by rw [k150 hMν hp (by omega), hpp]; rfl) (iteF (by decide) (bindS (v := nI 1) (by show s144 ν (nI k) (nI 0) (nI 3) = _; rw [k144 (by omega) (by omega) (by omega)]; simp [hk, bI]) (iteF (by decide) (bindS (v := nI 1) (by show s144 ν (nI g) (nI 1) (nI 3) = _; rw [k144 (by omega) (by omega) (by omega)]; simp [hg1, hg, bI]) (iteT (by decide) ?_))))))
          refine bindS (k148 hMν hp (k := 1) (by omega)) (bindS (k146 (by omega)) (bindS (v := nI 1) ?_ (iteT (by decide) hR)))
          show s144 ν (nI o) (nI 0) (nI (portsK (aR A p 1)) - nI 1) = _
          rw [nI_sub (by omega), k144 (by omega) (by omega) (by omega)]
          simp [show o ≤ portsK (aR A p 1) - 1 by omega, bI]
        by_cases e1 : inP A p o = 8
        · have cR : s23 μ (mP μ 2 1) (nI p) (nI o) = some (-nI 1) := by rw [s2, j23 hC ht hp (by omega), if_pos e1]
          have rR : ∀ {ν : mM}, RS ν A → s182 ν 200 (nI p) (nI o) = some (-nI 10) := fun {ν} hMν => by rw [k182 hMν ht hp (by omega), if_pos e1]
          have c18 : s18 μ (mP μ 2 1) (nI p) = some (ro 11 p) := by rw [s2]; exact j18 hF hp
          have c5 := RepC.r5 hC.2 hp hpp
          by_cases e2 : dep A p < 4
          · have c4 : mI μ (ro 11 p) 5 < 4 := by rw [c5, L_4, nI_ltI (by omega) (by omega)]; exact e2
            have r4 : ¬ nI (dep A p) = 4 := by rw [L_4, nI_eq (by omega) (by omega)]; omega
            by_cases e3 : labN A = 8
            · refine stay (-5) (inC (bindS cR (iteT rfl (bindS c18 (iteT (by rw [FabL.rs hF hp]) (iteT c4 (bindS (v := -nI 1) (by rw [s2, j22 hC ht, if_pos e3]) (iteF (by decide) rfl)))))))) (inR hM (bindS (rR hM) (iteT rfl (bindS (k152 hM ht hp hpp) (iteT r4 (bindS (k183 hM) (iteF ?_ rfl)))))))
              rw [(labN_8 ht).mpr e3]; decide
            · have hA : AddOK A (labN A) p o k g := ⟨n1, by omega, by rw [n3 (by omega)]; omega, hp, hpp, hk, hg1, hg, hop, e2, inP_8 e1⟩
              obtain ⟨μ1, q1, q2, q3⟩ := j25 hA hC ht hu
              have hM1 := q3.C.rs hM
              obtain ⟨μ2, r1, r2, r3⟩ := k180 (r := labN A) (p := p) (o := o) (k := k) (g := g) hM1 (by omega)
              have hsum : ¬ nI (sumN (fun r => aR A r 0) 8) = 8 := by
                have hle := sumN_le (g := fun r => aR A r 0) (h := fun _ => 1) (n := 8) (fun i hi => ht.le1 hi)
                rw [sumN_const] at hle
                rw [L_8, nI_eq (by omega) (by omega)]
                exact fun z => e3 ((labN_8 ht).mp z)
              have lp : mLoop (s184L52 μ1 200 (nI p) (nI o) (nI k) (nI g)) 1000 (nI 1) = some (.inl (nI (labN A))) := mLoop_seq0 (b := s184L52 μ1 200 (nI p) (nI o) (nI k) (nI g)) (fun i => nI (1 + i)) (labN A - 1) (fun i hi => by
                have z := n4 (1 + i) (by omega) (by omega)
                have z2 := ht.le1 (r := 1 + i) (by omega)
                unfold s184L52
                refine iteT (by rw [RefL.s hM1.1]) (bindS (k148 hM1 (r := 1 + i) (k := 0) (by omega) (by omega)) (iteF ?_ ?_))
                · rw [show aR A (1 + i) 0 = 1 by omega]; decide
                · rw [show nI (1 + i) + 1 = nI (1 + i + 1) from nI_add _ 1]; rfl) (by
                have z := n3 (by omega)
                rw [show 1 + (labN A - 1) = labN A by omega]
                unfold s184L52
                refine iteT (by rw [RefL.s hM1.1]) (bindS (k148 hM1 (r := labN A) (k := 0) (by omega) (by omega)) (iteT ?_ rfl))
                rw [z]; decide) (n := 1000) (by omega)
              refine ⟨nI (labN A), μ1, μ2, _, inC (bindS cR (iteT rfl (bindS c18 (iteT (by rw [FabL.rs hF hp]) (iteT c4 (bindS (v := nI (labN A)) (by rw [s2, j22 hC ht, if_neg e3]) (iteT (fun z => (nI_ng (k := 1) (by omega) (by omega) (by omega)).mp z) (bindS (by rw [s2]; exact q1) rfl)))))))), q3.C, q2, SZ_add hA ht hu hZ q3, inR hM1 (bindS (rR hM1) (iteT rfl (bindS (k152 hM1 ht hp hpp) (iteT r4 (bindS (k183 hM1) (iteT hsum (bindS lp (iteT (by rw [RefL.s hM1.1]) (bindS r1 rfl))))))))), Fr.R r3 (by omega), r2, wft_add hA ht, wfu_add hA ht hu⟩
          · have c4 : ¬ mI μ (ro 11 p) 5 < 4 := by rw [c5, L_4, nI_ltI (by omega) (by omega)]; exact e2
            exact stay (-4) (inC (bindS cR (iteT rfl (bindS c18 (iteT (by rw [FabL.rs hF hp]) (iteF c4 rfl)))))) (inR hM (bindS (rR hM) (iteT rfl (bindS (k152 hM ht hp hpp) (iteF (by rw [show dep A p = 4 by omega]; decide) rfl)))))
        · refine stay (-3) (inC (bindS (v := nI (inP A p o)) (by rw [s2, j23 hC ht hp (by omega), if_neg e1]) (iteF (fun z => (nI_ng (k := 1) (by omega) (by omega) (by omega)).mp z) rfl))) (inR hM (bindS (v := nI (inP A p o)) (by rw [k182 hM ht hp (by omega), if_neg e1]) (iteF (fun z => (nI_ng (k := 10) (by omega) (by omega) (by omega)).mp z) rfl)))
      · refine stay (-1) ?_ ?_
        · unfold s101
          exact iteT s8 (iteT sF (bindS (by rw [s2]; exact l1) (iteF (by decide) (bindS b1 (iteF (by decide) (bindS c1 (iteF (by decide) rfl)))))))
        · unfold s184
          exact iteT s9 (bindS (v := nI 1) (by rw [k150 hM hp (by omega), hpp]; rfl) (iteF (by decide) (bindS b2 (iteF (by decide) (bindS c2 (iteF (by decide) rfl))))))
    · refine stay (-1) ?_ ?_
      · unfold s101
        exact iteT s8 (iteT sF (bindS (by rw [s2]; exact l1) (iteF (by decide) (bindS b1 (iteT rfl rfl)))))
      · unfold s184
        exact iteT s9 (bindS (v := nI 1) (by rw [k150 hM hp (by omega), hpp]; rfl) (iteF (by decide) (bindS b2 (iteT rfl rfl))))
  · refine stay (-1) ?_ ?_
    · unfold s101
      exact iteT s8 (iteT sF (bindS (by rw [s2]; exact l1) (iteT rfl rfl)))
    · unfold s184
      rcases l2 with l2 | ⟨p, rfl, hp, hpp, l3, l4⟩
      · exact iteT s9 (bindS l2 (iteT rfl rfl))
      · have hkp := kind_le ht hp hpp
        refine iteT s9 (bindS l3 (iteF (by decide) ?_))
        rcases btw μ z 0 3 (by omega) (by omega) with ⟨k, rfl, -, hk, b1, b2⟩ | ⟨-, b1, b2⟩
        · refine bindS b2 (iteF (by decide) ?_)
          rcases btw μ w 1 3 (by omega) (by omega) with ⟨g, rfl, hg1, hg, c1, c2⟩ | ⟨-, c1, c2⟩
          · exact bindS c2 (iteT (by decide) (bindS (k148 hM hp (k := 1) (by omega)) (bindS (k146 (by omega)) (bindS l4 (iteF (by decide) rfl)))))
          · exact bindS c2 (iteF (by decide) rfl)
        · exact bindS b2 (iteT rfl rfl)
end PL
