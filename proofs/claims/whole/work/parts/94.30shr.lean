/-! fair shares, handed to the law -/
section SK
variable {μ ν : mM} {A : Ab} {r t d i n v : Nat} {L : Nat} {xs : Nat → Int32} {p : S3}
theorem j72 (hK : ClsL (mS μ) (mP μ)) (hC : CS μ 11 A) (ht : WFt A) (hu : WFu A) (hd : d < 2) : ∃ ν, s72 μ 195 11 (nI d) = some ν ∧ Fr 195 199 μ ν ∧ SY A 196 ν (rdN A (p0 A d) 10) := by
  obtain ⟨μ1, e1, f1, g1⟩ := mLoop_mem (b := s72L2 195 11 (nI d)) (μ := μ) (fun i ν => Fr 196 197 μ ν ∧ ∀ r, 1 ≤ r → r < 1 + i → aR A r 0 = 1 → mF ν 196 r = l0 A d r) 1 7 (fun i ν hi hJ => by
    obtain ⟨f1, g1⟩ := hJ
    have hK' := hK.fr f1
    obtain ⟨p1, p2, p3, p4, p5, p6, p7⟩ := sh_s hK'
    have hC' : CS ν 11 A := hC.fr f1 (by omega)
    have hF := hC'.1
    have mc := m_cl (show 1 + i < 2 ^ 31 by omega)
    have rp : mP ν (mP ν 11 0) (Int32.toNatClampNeg (nI (1 + i))) = ro 11 (1 + i) := by rw [FabL.p0 hF, mc, FabL.r hF (by omega)]
    have main : ∀ x, (aR A (1 + i) 0 = 1 → x = nI (if d = 0 then rsv A (1 + i) else 0)) → ∃ ν', s72L2_12 195 11 (nI d) ν (nI (1 + i)) x = some (.inl (nI (1 + i + 1), ν')) ∧ Fr 196 197 μ ν' ∧ ∀ r, 1 ≤ r → r < 1 + (i + 1) → aR A r 0 = 1 → mF ν' 196 r = l0 A d r := fun x hx => by
      obtain ⟨w, hw⟩ := j53t (r := 1 + i) hF (by omega) (nI d)
      refine ⟨mUF ν 196 (1 + i) (FP.i2f (w - x)), ?_, f1.trans (Fr_UF ν (by omega) (by omega) _ _), fun r h1 h2 h3 => ?_⟩
      · unfold s72L2_12
        refine iteT (by rw [p1]) (iteT (by rw [FabL.s0 hF]) (iteT (by rw [FabL.p0 hF, FabL.s1 hF]; exact ⟨rfl, (mInb_iff (by omega)).mpr (by omega)⟩) (iteT (by rw [rp, FabL.rs hF (by omega)]) (iteT (by rw [rp, FabL.rl hF (by omega), FabL.ls hF (by omega)]) (bindS (v := w) (by rw [rp, FabL.rl hF (by omega)]; exact hw) (iteT (by rw [p2, p5]; exact ⟨rfl, (mInb_iff (by omega)).mpr (by omega)⟩) (bindS (v := mUF ν 196 (1 + i) (FP.i2f (w - x))) (by rw [p2, mc]) ?_)))))))
        show some (Sum.inl (nI (1 + i) + nI 1, _)) = _
        rw [nI_add]
      · rw [mF_UF]
        by_cases z : r = 1 + i
        · subst z
          rw [if_pos ⟨rfl, rfl⟩]
          have e3 := j53 hC' ht (r := 1 + i) (by omega) (by omega) h3 (d := d) (by omega)
          rw [hw] at e3
          have e4 : w = nI (cap A (1 + i) d) := Option.some.inj e3
          have hv := hu.rsv (r := 1 + i) (by omega) (by omega) h3
          rw [e4, hx h3]
          unfold l0
          by_cases d0 : d = 0
          · subst d0
            rw [if_pos rfl, if_pos rfl, nI_sub (by omega)]
          · rw [if_neg d0, if_neg d0, nI_sub (by omega), Nat.sub_zero]
        · rw [if_neg (fun y => z y.2)]; exact g1 r h1 (by omega) h3
    by_cases d0 : d = 0
    · subst d0
      obtain ⟨ν', x1, x2, x3⟩ := main (nI (rsv A (1 + i))) (fun _ => by rw [if_pos rfl])
      refine ⟨ν', ?_, x2, x3⟩
      unfold s72L2
      exact iteF (by show ¬ nI 8 ≤ nI (1 + i); rw [nI_leI (by omega) (by omega)]; omega) (iteF (show ¬ ¬ nI 0 = 0 by decide) (iteT (by rw [FabL.s0 hF]) (bindS (j29 hC' ht hu (by omega)) x1)))
    · obtain ⟨ν', x1, x2, x3⟩ := main 0 (fun _ => by rw [if_neg d0]; rfl)
      refine ⟨ν', ?_, x2, x3⟩
      unfold s72L2
      exact iteF (by show ¬ nI 8 ≤ nI (1 + i); rw [nI_leI (by omega) (by omega)]; omega) (iteT (by show ¬ nI d = nI 0; rw [nI_eq (by omega) (by omega)]; exact d0) x1)) (fun ν hJ => by
    unfold s72L2
    exact iteT (by show nI 8 ≤ nI (1 + 7); rw [nI_leI (by omega) (by omega)]; omega) rfl) ⟨Fr.refl _ _ _, fun r h1 h2 => by omega⟩ (n := 1000) (by omega)
  have hK1 := hK.fr f1
  have hC1 : CS μ1 11 A := hC.fr f1 (by omega)
  obtain ⟨μ2, e2, f2, g2⟩ := mLoop_mem (b := s72L31 195 11) (μ := μ1) (fun i ν => Fr 197 199 μ1 ν ∧ ∀ t, t < i → mF ν 197 t = FP.fconst0 ∧ mI ν 198 t = bI (a0 A t)) 0 10 (fun i ν hi hJ => by
    obtain ⟨f2, g2⟩ := hJ
    have hK' := hK1.fr f2
    obtain ⟨p1, p2, p3, p4, p5, p6, p7⟩ := sh_s hK'
    have hC' : CS ν 11 A := hC1.fr f2 (by omega)
    have hF := hC'.1
    have mc := m_cl (show i < 2 ^ 31 by omega)
    have tp : mP ν (mP ν 11 1) (Int32.toNatClampNeg (nI i)) = tu 11 i := by rw [FabL.p1 hF, mc, FabL.tp hF hi]
    rw [Nat.zero_add]
    refine ⟨mUF (mUI ν 198 i (bI (a0 A i))) 197 i FP.fconst0, ?_, f2.trans ((Fr_UI ν (by omega) (by omega) _ _).trans (Fr_UF _ (by omega) (by omega) _ _)), fun t htt => ?_⟩
    · unfold s72L31
      have p3' : mP (mUI ν 198 i (bI (a0 A i))) 195 1 = 197 := p3
      have p6' : mS (mUI ν 198 i (bI (a0 A i))) 197 = (11, 10) := p6
      refine iteF (by show ¬ nI 10 ≤ nI i; rw [nI_leI (by omega) (by omega)]; omega) (iteT (by rw [p1]) (iteT (by rw [FabL.s0 hF]) (iteT (by rw [FabL.p1 hF, FabL.s2 hF]; exact ⟨rfl, (mInb_iff (by omega)).mpr hi⟩) (iteT (by rw [tp, FabL.ts hF hi]) (bindS (v := bI (a0 A i)) (by rw [tp]; exact j81 hC' hu hi) (iteT (by rw [p4, p7]; exact ⟨rfl, (mInb_iff (by omega)).mpr hi⟩) (iteT (by cases a0 A i <;> decide) (bindS (v := mUI ν 198 i (bI (a0 A i))) (by rw [p4, mc]) (iteT (by rw [p3', p6']; exact ⟨rfl, (mInb_iff (by omega)).mpr hi⟩) (bindS (v := mUF (mUI ν 198 i (bI (a0 A i))) 197 i FP.fconst0) (by rw [p3', mc]) ?_))))))))))
      show some (Sum.inl (nI i + nI 1, _)) = _
      rw [nI_add]
    · rw [mF_UF, mI_UF, mF_UI, mI_UI]
      by_cases z : t = i
      · rw [if_pos ⟨rfl, z⟩, if_pos ⟨rfl, z⟩, z]; exact ⟨rfl, rfl⟩
      · rw [if_neg (fun y => z y.2), if_neg (fun y => z y.2)]; exact g2 t (by omega)) (fun ν hJ => by
    unfold s72L31
    exact iteT (by show nI 10 ≤ nI (0 + 10); rw [nI_leI (by omega) (by omega)]; omega) rfl) ⟨Fr.refl _ _ _, fun t h => by omega⟩ (n := 1000) (by omega)
  have hK2 := hK1.fr f2
  have hC2 : CS μ2 11 A := hC1.fr f2 (by omega)
  have hX2 : SY A 196 μ2 (p0 A d) := ⟨fun r h1 h2 h3 => by rw [(f2.2 196 (by omega)).2]; exact g1 r h1 (by omega) h3, fun t htt => (g2 t htt).1, fun t htt => (g2 t htt).2⟩
  obtain ⟨o, ν, e3, o3, f3, g3⟩ := j72r hK2 hC2 ht hu hX2 (p0_ok hu)
  refine ⟨ν, ?_, ((f1.mono (by omega) (by omega)).trans (f2.mono (by omega) (by omega))).trans f3, g3⟩
  unfold s72
  refine bindS e1 (bindS e2 (bindS e3 ?_))
  rcases o3 with rfl | rfl
  · rfl
  · rfl
theorem k225s (hM : RS μ A) (ht : WFt A) (hu : WFu A) (hd : d < 2) : ∃ ν, s225 μ 200 (nI d) = some ν ∧ Fr 215 218 μ ν ∧ SY A 215 ν (rdN A (p0 A d) 10) := by
  obtain ⟨μ1, e1, f1, g1⟩ := mLoop_mem (b := s225L2 200 (nI d)) (μ := μ) (fun i ν => Fr 215 216 μ ν ∧ ∀ r, 1 ≤ r → r < 1 + i → aR A r 0 = 1 → mF ν 215 r = l0 A d r) 1 7 (fun i ν hi hJ => by
    obtain ⟨f1, g1⟩ := hJ
    have hM' : RS ν A := hM.fr f1 (by omega)
    have hR := hM'.1
    have mc := m_cl (show 1 + i < 2 ^ 31 by omega)
    have l1 := ht.le1 (show 1 + i < 8 by omega)
    have main : ∀ x, (aR A (1 + i) 0 = 1 → x = l0 A d (1 + i)) → ∃ ν', s225L2_29 200 (nI d) ν (nI (1 + i)) x (nI (1 + i)) (mP ν 200 16) = some (.inl (nI (1 + i + 1), ν')) ∧ Fr 215 216 μ ν' ∧ ∀ r, 1 ≤ r → r < 1 + (i + 1) → aR A r 0 = 1 → mF ν' 215 r = l0 A d r := fun x hx => by
      refine ⟨mUF ν 215 (1 + i) x, ?_, f1.trans (Fr_UF ν (by omega) (by omega) _ _), fun r h1 h2 h3 => ?_⟩
      · unfold s225L2_29
        refine iteT (by rw [RefL.r16 hR, RefL.a16 hR]; exact ⟨rfl, (mInb_iff (by omega)).mpr (by omega)⟩) (bindS (v := mUF ν 215 (1 + i) x) (by rw [RefL.r16 hR, mc]) ?_)
        show some (Sum.inl (nI (1 + i) + nI 1, _)) = _
        rw [nI_add]
      · rw [mF_UF]
        by_cases z : r = 1 + i
        · subst z
          rw [if_pos ⟨rfl, rfl⟩]; exact hx h3
        · rw [if_neg (fun y => z y.2)]; exact g1 r h1 (by omega) h3
    by_cases q : aR A (1 + i) 0 = 1
    · have hv := hu.rsv (r := 1 + i) (by omega) (by omega) q
      by_cases d0 : d = 0
      · subst d0
        obtain ⟨ν', x1, x2, x3⟩ := main (FP.i2f (nI (cap A (1 + i) 0) - nI (rsv A (1 + i)))) (fun _ => by unfold l0; rw [if_pos rfl, nI_sub (by omega)])
        refine ⟨ν', ?_, x2, x3⟩
        unfold s225L2
        exact iteF (by show ¬ nI 8 ≤ nI (1 + i); rw [nI_leI (by omega) (by omega)]; omega) (iteT (by rw [RefL.s hR]) (bindS (v := nI (aR A (1 + i) 0)) (k148 hM' (by omega) (k := 0) (by omega)) (iteF (by rw [q]; decide) (bindS (k156 hM' ht (by omega) (by omega) q (by omega)) (iteF (show ¬ ¬ nI 0 = 0 by decide) (bindS (k168 hM' ht hu (by omega)) x1))))))
      · obtain ⟨ν', x1, x2, x3⟩ := main (FP.i2f (nI (cap A (1 + i) d) - 0)) (fun _ => by unfold l0; rw [if_neg d0, Int32.sub_zero])
        refine ⟨ν', ?_, x2, x3⟩
        unfold s225L2
        exact iteF (by show ¬ nI 8 ≤ nI (1 + i); rw [nI_leI (by omega) (by omega)]; omega) (iteT (by rw [RefL.s hR]) (bindS (v := nI (aR A (1 + i) 0)) (k148 hM' (by omega) (k := 0) (by omega)) (iteF (by rw [q]; decide) (bindS (k156 hM' ht (by omega) (by omega) q (by omega)) (iteT (by show ¬ nI d = nI 0; rw [nI_eq (by omega) (by omega)]; exact d0) x1)))))
    · obtain ⟨ν', x1, x2, x3⟩ := main FP.fconst0 (fun z => absurd z q)
      refine ⟨ν', ?_, x2, x3⟩
      unfold s225L2
      exact iteF (by show ¬ nI 8 ≤ nI (1 + i); rw [nI_leI (by omega) (by omega)]; omega) (iteT (by rw [RefL.s hR]) (bindS (v := nI (aR A (1 + i) 0)) (k148 hM' (by omega) (k := 0) (by omega)) (iteT (by show ¬ nI _ = nI 1; rw [nI_eq (by omega) (by omega)]; exact q) x1)))) (fun ν hJ => by
    unfold s225L2
    exact iteT (by show nI 8 ≤ nI (1 + 7); rw [nI_leI (by omega) (by omega)]; omega) rfl) ⟨Fr.refl _ _ _, fun r h1 h2 => by omega⟩ (n := 1000) (by omega)
  have hM1 : RS μ1 A := hM.fr f1 (by omega)
  obtain ⟨μ2, e2, f2, g2⟩ := mLoop_mem (b := s225L34 200 (nI d)) (μ := μ1) (fun i ν => Fr 216 218 μ1 ν ∧ ∀ t, t < i → mF ν 216 t = FP.fconst0 ∧ mI ν 217 t = bI (a0 A t)) 0 10 (fun i ν hi hJ => by
    obtain ⟨f2, g2⟩ := hJ
    have hM' : RS ν A := hM1.fr f2 (by omega)
    have hR := hM'.1
    have mc := m_cl (show i < 2 ^ 31 by omega)
    have l1 := hu.le1 hi
    rw [Nat.zero_add]
    refine ⟨mUF (mUI ν 217 i (bI (a0 A i))) 216 i FP.fconst0, ?_, f2.trans ((Fr_UI ν (by omega) (by omega) _ _).trans (Fr_UF _ (by omega) (by omega) _ _)), fun t htt => ?_⟩
    · have main : s225L34_54 200 (nI d) ν (nI i) (bI (a0 A i)) (nI i) (mP ν 200 18) = some (.inl (nI (i + 1), mUF (mUI ν 217 i (bI (a0 A i))) 216 i FP.fconst0)) := by
        unfold s225L34_54
        have p3' : mP (mUI ν 217 i (bI (a0 A i))) 200 17 = 216 := RefL.r17 hR
        have p6' : mS (mUI ν 217 i (bI (a0 A i))) 216 = (11, 10) := RefL.a17 hR
        have p0' : mS (mUI ν 217 i (bI (a0 A i))) 200 = (9, 21) := RefL.s hR
        refine iteT (by rw [RefL.r18 hR, RefL.a18 hR]; exact ⟨rfl, (mInb_iff (by omega)).mpr hi⟩) (iteT (by cases a0 A i <;> decide) (bindS (v := mUI ν 217 i (bI (a0 A i))) (by rw [RefL.r18 hR, mc]) (iteT (by rw [p0']) (iteT (by rw [p3', p6']; exact ⟨rfl, (mInb_iff (by omega)).mpr hi⟩) (bindS (v := mUF (mUI ν 217 i (bI (a0 A i))) 216 i FP.fconst0) (by rw [p3', mc]) ?_)))))
        show some (Sum.inl (nI i + nI 1, _)) = _
        rw [nI_add]
      unfold s225L34
      refine iteF (by show ¬ nI 10 ≤ nI i; rw [nI_leI (by omega) (by omega)]; omega) (iteT (by rw [RefL.s hR]) (bindS (v := nI (aT A i 0)) (k159 hM' hi (k := 0) (by omega)) ?_))
      by_cases o : aT A i 0 = 1
      · obtain ⟨o1, -⟩ := hu.o hi o
        refine iteF (by rw [o]; decide) (bindS (v := nI (aT A i 1)) (k159 hM' hi (k := 1) (by omega)) ?_)
        by_cases k : aT A i 1 = 0
        · have e : a0 A i = false := by unfold a0; simp [k]
          rw [e] at main ⊢
          exact iteT (by rw [k]; decide) main
        · have e : a0 A i = true := by unfold a0; simp [o, k]
          rw [e] at main ⊢
          exact iteF (by show ¬ nI _ ≤ nI 0; rw [nI_leI (by omega) (by omega)]; omega) main
      · have e : a0 A i = false := by unfold a0; simp [o]
        rw [e] at main ⊢
        exact iteT (by show ¬ nI _ = nI 1; rw [nI_eq (by omega) (by omega)]; exact o) main
    · rw [mF_UF, mI_UF, mF_UI, mI_UI]
      by_cases z : t = i
      · rw [if_pos ⟨rfl, z⟩, if_pos ⟨rfl, z⟩, z]; exact ⟨rfl, rfl⟩
      · rw [if_neg (fun y => z y.2), if_neg (fun y => z y.2)]; exact g2 t (by omega)) (fun ν hJ => by
    unfold s225L34
    exact iteT (by show nI 10 ≤ nI (0 + 10); rw [nI_leI (by omega) (by omega)]; omega) rfl) ⟨Fr.refl _ _ _, fun t h => by omega⟩ (n := 1000) (by omega)
  have hM2 : RS μ2 A := hM1.fr f2 (by omega)
  have hX2 : SY A 215 μ2 (p0 A d) := ⟨fun r h1 h2 h3 => by rw [(f2.2 215 (by omega)).2]; exact g1 r h1 (by omega) h3, fun t htt => (g2 t htt).1, fun t htt => (g2 t htt).2⟩
  have ok := p0_ok (A := A) (d := d) hu
  obtain ⟨ν, e3, f3, g3⟩ := k225r hM2 ht hu hX2 ok hd
  refine ⟨ν, ?_, ((f1.mono (by omega) (by omega)).trans (f2.mono (by omega) (by omega))).trans f3, g3⟩
  unfold s225
  exact bindS e1 (bindS e2 (iteT (by rw [RefL.s hM2.1]) (bindS (k224 hM2 ht hu hX2 ok.2.1 ok.1 hd) (bindS e3 rfl))))
theorem bits_0 : s142 μ FP.fconst0 = some 0 := by
  unfold s142
  exact iteF (by decide) rfl
theorem op22 : Op22 (Inv L xs) := fun x y => CI_op fun μ A hS hZ => by
  obtain ⟨hK, hC, hM, ht, hu⟩ := hS
  have hR := hM.1
  have hF := hC.1
  rcases tun hC hM hu x with ⟨t, rfl, htt, ho, l1, l2⟩ | ⟨l1, l2⟩
  · rcases dir μ y with ⟨d, rfl, hd, d1, d2⟩ | ⟨d1, d2⟩
    · obtain ⟨o1, o2, o3, o4, o5, o6, o7, o8, -⟩ := hu.o htt ho
      have mc := m_cl (show t < 2 ^ 31 by omega)
      have tp : mP μ (mP μ (mP μ 2 1) 1) (Int32.toNatClampNeg (nI t)) = tu 11 t := by rw [ClsL.p1 hK, FabL.p1 hF, mc, FabL.tp hF htt]
      by_cases k : aT A t 1 = 0
      · have ck : mI μ (tu 11 t) 1 = nI (aT A t 1) := RepC.t1 hC.2 htt ho
        by_cases d0 : d = 0
        · subst d0
          have h4 : (FP.i2f (nI (aT A t 4))).toNat ≤ 1094713344 := i2_12 ⟨aT A t 4, by omega⟩
          have h5 : fP 5 = 1107296256 := rfl
          obtain ⟨v, b1, b2⟩ := bits_eq (μ := μ) (μ' := μ) (x := FP.i2f (nI (aT A t 4))) (by omega)
          refine ⟨v, μ, μ, A, ?_, FrC.refl _, hC, hZ, ?_, FrR.refl _, hM, ht, hu⟩
          · unfold s119
            refine iteT (by rw [ClsL.s hK]) (iteT (by rw [ClsL.p1 hK, FabL.s0 hF]) (bindS (v := nI 1) (by rw [ClsL.p1 hK]; exact l1) (iteF (by decide) (bindS d1 (iteT (by decide) (iteT (by rw [ClsL.p1 hK, FabL.p1 hF, FabL.s2 hF]; exact ⟨rfl, (mInb_iff (by omega)).mpr htt⟩) (iteT (by rw [tp, FabL.ts hF htt]) (iteF (by rw [tp, ck, k]; decide) (iteF (show ¬ ¬ nI 0 = 0 by decide) (bindS (v := v) ?_ rfl))))))))))
            rw [tp, RepC.t4 hC.2 htt ho]; exact b1
          · unfold s227
            exact iteT (by rw [RefL.s hR]) (bindS l2 (iteF (by decide) (bindS d2 (iteT (by decide) (bindS (k159 hM htt (k := 1) (by omega)) (iteF (by rw [k]; decide) (iteF (show ¬ ¬ nI 0 = 0 by decide) (bindS (k159 hM htt (k := 4) (by omega)) (bindS b2 rfl)))))))))
        · have dn : ¬ nI d = 0 := by show ¬ nI d = nI 0; rw [nI_eq (by omega) (by omega)]; exact d0
          refine ⟨0, μ, μ, A, ?_, FrC.refl _, hC, hZ, ?_, FrR.refl _, hM, ht, hu⟩
          · unfold s119
            exact iteT (by rw [ClsL.s hK]) (iteT (by rw [ClsL.p1 hK, FabL.s0 hF]) (bindS (v := nI 1) (by rw [ClsL.p1 hK]; exact l1) (iteF (by decide) (bindS d1 (iteT (by decide) (iteT (by rw [ClsL.p1 hK, FabL.p1 hF, FabL.s2 hF]; exact ⟨rfl, (mInb_iff (by omega)).mpr htt⟩) (iteT (by rw [tp, FabL.ts hF htt]) (iteF (by rw [tp, ck, k]; decide) (iteT dn (bindS bits_0 rfl))))))))))
          · unfold s227
            exact iteT (by rw [RefL.s hR]) (bindS l2 (iteF (by decide) (bindS d2 (iteT (by decide) (bindS (k159 hM htt (k := 1) (by omega)) (iteF (by rw [k]; decide) (iteT dn rfl)))))))
      · obtain ⟨μ1, e1, f1, g1⟩ := j72 hK hC ht hu hd
        have hK1 := hK.fr f1
        have hC1 : CS μ1 11 A := hC.fr f1 (by omega)
        have hM1 : RS μ1 A := hM.fr f1 (by omega)
        obtain ⟨μ2, e2, f2, g2⟩ := k225s hM1 ht hu hd
        have hM2 : RS μ2 A := hM1.fr f2 (by omega)
        have ok := rdN_ok ht hu (p0_ok (d := d) hu) 10
        obtain ⟨v, b1, b2⟩ := bits_eq (μ := μ1) (μ' := μ2) (x := (rdN A (p0 A d) 10).2.1 t) (by have := ok.2.2 t htt; unfold fP; omega)
        have kn : ¬ nI (aT A t 1) = 0 := by show ¬ nI _ = nI 0; rw [nI_eq (by omega) (by omega)]; exact k
        refine ⟨v, μ1, μ2, A, ?_, ⟨f1.mono (by omega) (by omega), fun hb => hb.cg (fun r hr => by rw [(f1.2 _ (by unfold ro; omega)).1]) (fun t d a b => by rw [(f1.2 _ (by unfold wy; omega)).1])⟩, hC1, fun t d k a b c e => by rw [(f1.2 _ (by unfold wy; omega)).1]; exact hZ t d k a b c e, ?_, f2.R (by omega), hM2, ht, hu⟩
        · unfold s119
          obtain ⟨p1, p2, p3, p4, p5, p6, p7⟩ := sh_s hK1
          refine iteT (by rw [ClsL.s hK]) (iteT (by rw [ClsL.p1 hK, FabL.s0 hF]) (bindS (v := nI 1) (by rw [ClsL.p1 hK]; exact l1) (iteF (by decide) (bindS d1 (iteT (by decide) (iteT (by rw [ClsL.p1 hK, FabL.p1 hF, FabL.s2 hF]; exact ⟨rfl, (mInb_iff (by omega)).mpr htt⟩) (iteT (by rw [tp, FabL.ts hF htt]) (iteT (by rw [tp, RepC.t1 hC.2 htt ho]; exact kn) (iteT (by rw [ClsL.p4 hK, (sh_s hK).1]) (bindS (v := μ1) (by rw [ClsL.p4 hK, ClsL.p1 hK]; exact e1) (iteT (by rw [ClsL.s hK1]) (iteT (by rw [ClsL.p4 hK1, p1]) (iteT (by rw [ClsL.p4 hK1, p3, p6]; exact ⟨rfl, (mInb_iff (by omega)).mpr htt⟩) (bindS (v := v) ?_ rfl))))))))))))))
          rw [ClsL.p4 hK1, p3, mc, g1.2.1 t htt]; exact b1
        · unfold s227
          have q1 := k161 hM1 htt (hu.le1 htt)
          rw [ho] at q1
          have q2 := k144 (μ := μ1) (x := d) (a := 0) (b := 1) (by omega) (by omega) (by omega)
          have q3 : decide (0 ≤ d ∧ d ≤ 1) = true := by simp; omega
          rw [q3] at q2
          refine iteT (by rw [RefL.s hM1.1]) (bindS q1 (iteF (by decide) (bindS q2 (iteT (by decide) (bindS (k159 hM1 htt (k := 1) (by omega)) (iteT kn (bindS e2 (iteT (by rw [RefL.s hM2.1]) (iteT (by rw [RefL.r17 hM2.1, RefL.a17 hM2.1]; exact ⟨rfl, (mInb_iff (by omega)).mpr htt⟩) (bindS (v := v) ?_ rfl))))))))))
          rw [RefL.r17 hM2.1, mc, g2.2.1 t htt]; exact b2
    · refine ⟨-1, μ, μ, A, ?_, FrC.refl _, hC, hZ, ?_, FrR.refl _, hM, ht, hu⟩
      · unfold s119
        exact iteT (by rw [ClsL.s hK]) (iteT (by rw [ClsL.p1 hK, FabL.s0 hF]) (bindS (v := nI 1) (by rw [ClsL.p1 hK]; exact l1) (iteF (by decide) (bindS d1 (iteF (by decide) rfl)))))
      · unfold s227
        exact iteT (by rw [RefL.s hR]) (bindS l2 (iteF (by decide) (bindS d2 (iteF (by decide) rfl))))
  · refine ⟨-1, μ, μ, A, ?_, FrC.refl _, hC, hZ, ?_, FrR.refl _, hM, ht, hu⟩
    · unfold s119
      exact iteT (by rw [ClsL.s hK]) (iteT (by rw [ClsL.p1 hK, FabL.s0 hF]) (bindS (v := nI 0) (by rw [ClsL.p1 hK]; exact l1) (iteT (by decide) rfl)))
    · unfold s227
      exact iteT (by rw [RefL.s hR]) (bindS l2 (iteT (by decide) rfl))
end SK
