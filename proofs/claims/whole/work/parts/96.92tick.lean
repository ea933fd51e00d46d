/-! the tick: links settle, the class -/
section TV
variable {μ ν : mM} {A : Ab} {r s0 s1 : Nat}
theorem j10 (hK : ClsL (mS μ) (mP μ)) (hC : CS μ 11 A) (ht : WFt A) (hu : WFu A) (h1 : 1 ≤ r) (hr : r < 8) (hp : aR A r 0 = 1) (v0 : mI μ (ro 11 r + 4) 0 = nI s0) (v1 : mI μ (ro 11 r + 4) 1 = nI s1) (b0 : s0 ≤ 12) (b1 : s1 ≤ 12) : ∃ ν, s10 μ 193 11 (nI r) = some ν ∧ CS ν 11 (stl A r (decide (s0 + s1 = 0))) ∧ FrX μ ν := by
  have hF := hC.1
  obtain ⟨-, -, -, -, -, -, -, -, w5, w6, -⟩ := ht.w h1 hr hp
  have pre : ∀ q, (if ¬ (nI s0 + nI s1) = 0 then (s10_18 193 11 (nI r) μ (ro 11 r + 1) 0) else (s10_18 193 11 (nI r) μ (ro 11 r + 1) 1)) = q → s10 μ 193 11 (nI r) = q := fun q hq => by
    unfold s10
    refine iteT (by rw [FabL.s0 hF]) (bindS (j18 hF hr) (iteT (by rw [FabL.rs hF hr]) (iteT (by rw [FabL.rl hF hr, FabL.ls hF hr]) (iteT (by rw [FabL.rl hF hr, FabL.l7 hF hr, FabL.q4 hF hr]; exact ⟨rfl, (mInb_iff (j := 0) (by omega)).mpr (by omega)⟩) (iteT (by rw [FabL.rl hF hr, FabL.l7 hF hr, FabL.q4 hF hr]; exact ⟨rfl, (mInb_iff (j := 1) (by omega)).mpr (by omega)⟩) ?_)))))
    rw [FabL.rl hF hr, FabL.l7 hF hr]
    show (if ¬ (mI μ (ro 11 r + 4) 0 + mI μ (ro 11 r + 4) 1) = 0 then _ else _) = _
    rw [v0, v1]; exact hq
  by_cases z : s0 + s1 = 0
  · rw [decide_eq_true z]
    have e55 := j55 hC h1 hr hp w6
    by_cases aw : aR A r 6 < 2
    · rw [decide_eq_true aw] at e55
      have ix : idl A r true = aR A r 7 + 1 := by unfold idl; rw [if_pos ⟨rfl, aw⟩]
      obtain ⟨ν, e, c, f⟩ := j10b (qt := true) (x := mI μ (ro 11 r + 1) 3 + 1) hK hC ht hu h1 hr hp (by rw [RepC.g3 hC.2 h1 hr hp, ix]; exact nI_add _ 1)
      refine ⟨ν, pre _ (iteF (by rw [nI_add, z]; decide) ?_), c, f⟩
      unfold s10_18
      exact iteF (by decide) (iteT (by rw [FabL.ls hF hr]) (bindS e55 (iteF (by decide) e)))
    · rw [decide_eq_false aw] at e55
      have ix : idl A r true = 0 := by unfold idl; rw [if_neg (fun y => aw y.2)]
      obtain ⟨ν, e, c, f⟩ := j10b (qt := true) (x := 0) hK hC ht hu h1 hr hp (by rw [ix]; rfl)
      refine ⟨ν, pre _ (iteF (by rw [nI_add, z]; decide) ?_), c, f⟩
      unfold s10_18
      exact iteF (by decide) (iteT (by rw [FabL.ls hF hr]) (bindS e55 (iteT rfl e)))
  · rw [decide_eq_false z]
    have ix : idl A r false = 0 := by unfold idl; rw [if_neg (fun y => by cases y.1)]
    obtain ⟨ν, e, c, f⟩ := j10b (qt := false) (x := 0) hK hC ht hu h1 hr hp (by rw [ix]; rfl)
    refine ⟨ν, pre _ (iteT (by rw [nI_add]; show ¬ nI _ = nI 0; rw [nI_eq (by omega) (by omega)]; exact z) ?_), c, f⟩
    unfold s10_18
    exact iteT rfl e
end TV
