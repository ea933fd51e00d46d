/-! the tick: links settle, the reference -/
section TW
variable {μ ν : mM} {A : Ab} {r s0 s1 : Nat} {qt : Bool}
theorem k218b (hM : RS μ A) (ht : WFt A) (hu : WFu A) (h1 : 1 ≤ r) (hr : r < 8) (hp : aR A r 0 = 1) {x : Int32} (hx : x = nI (idl A r qt)) : ∃ ν, s218_80 200 (nI r) μ (bI qt) (nI (aR A r 6)) x 7 (nI r) 200 = some ν ∧ RS ν (stl A r qt) ∧ Fr 201 202 μ ν := by
  have hR := hM.1
  obtain ⟨-, -, -, -, -, -, -, -, w5, w6, -⟩ := ht.w h1 hr hp
  obtain ⟨t1, u1⟩ := set7_wf (r := r) (v := idl A r qt) ht hu
  have c1 := RS.uR (k := 7) (v := idl A r qt) hM hr (by omega)
  have e1 := k149 (k := 7) (v := idl A r qt) hM hr (by omega)
  obtain ⟨ν1, hν⟩ : ∃ ν1, ν1 = mUI μ 201 (9 * r + 7) (nI (idl A r qt)) := ⟨_, rfl⟩
  rw [← hν] at c1 e1
  have ff : ∀ ν k x, Fr 201 202 ν (mUI ν 201 k x) := fun ν k x => Fr_UI ν (by omega) (by omega) _ _
  have f1 : Fr 201 202 μ ν1 := by rw [hν]; exact ff _ _ _
  have y7 : s148 ν1 200 (nI r) (nI 7) = some (nI (idl A r qt)) := by
    have := k148 c1 hr (k := 7) (by omega)
    rw [aR_setR, if_pos ⟨rfl, rfl⟩] at this
    exact this
  have gp : mI ν1 201 431 = nI (aC A 3) := c1.2.2.2.2.2.2.1 3 (by omega)
  have e17 := k217 c1 t1 u1 hr
  rw [vid_R (by omega)] at e17
  have s6 : ∀ v, s149 ν1 200 (nI r) (nI 6) (nI v) = some (mUI ν1 201 (9 * r + 6) (nI v)) := fun v => k149 c1 hr (by omega)
  have c2 : ∀ v, RS (mUI ν1 201 (9 * r + 6) (nI v)) (setR (setR A r 7 (idl A r qt)) r 6 v) := fun v => RS.uR c1 hr (by omega)
  unfold s218_80 stl
  by_cases z1 : aR A r 6 = 1
  · rw [if_pos z1]
    cases qt
    · refine ⟨_, iteT (by rw [RefL.s hR]) (bindS (v := ν1) (by rw [hx]; exact e1) (iteF (by rw [z1]; decide) (iteT rfl ?_))), c2 0, f1.trans (ff _ _ _)⟩
      unfold s218_92
      exact iteT (by rw [RefL.s c1.1]) (bindS (s6 0) rfl)
    · refine ⟨_, iteT (by rw [RefL.s hR]) (bindS (v := ν1) (by rw [hx]; exact e1) (iteF (by rw [z1]; decide) (iteF (by decide) ?_))), c2 2, f1.trans (ff _ _ _)⟩
      unfold s218_92
      exact iteT (by rw [RefL.s c1.1]) (bindS (s6 2) rfl)
  · have n1 : ¬ nI (aR A r 6) = 1 := by show ¬ nI _ = nI 1; rw [nI_eq (by omega) (by omega)]; exact z1
    rw [if_neg z1]
    by_cases z0 : aR A r 6 = 0
    · rw [if_pos z0]
      have g : ∀ q, (if nI (idl A r qt) < nI (aC A 3) then (s218_114 200 (nI r) ν1) else ((s217 ν1 200 (nI r)).bind fun q29 => if ¬ q29 = 0 then (s218_114 200 (nI r) ν1) else ((s149 ν1 200 (nI r) 6 1).bind fun q31 => s218_114 200 (nI r) q31))) = q → (if (mS μ 200).1 = 9 then (s149 μ 200 (nI r) 7 x).bind fun q23 => if ¬ nI (aR A r 6) = 1 then (if ¬ nI (aR A r 6) = 0 then (s218_114 200 (nI r) q23) else (if (mS q23 200).1 = 9 then (s148 q23 200 (nI r) 7).bind fun q26 => if (mS q23 (mP q23 200 0)).1 = 10 ∧ mInb 431 (mS q23 (mP q23 200 0)).2 then if q26 < (mI q23 (mP q23 200 0) (Int32.toNatClampNeg 431)) then (s218_114 200 (nI r) q23) else ((s217 q23 200 (nI r)).bind fun q29 => if ¬ q29 = 0 then (s218_114 200 (nI r) q23) else ((s149 q23 200 (nI r) 6 1).bind fun q31 => s218_114 200 (nI r) q31)) else none else none)) else (if bI qt = 0 then (s218_92 200 (nI r) q23 0 6 (nI r) 200) else (s218_92 200 (nI r) q23 2 6 (nI r) 200)) else none) = q := fun q hq => by
        refine iteT (by rw [RefL.s hR]) (bindS (v := ν1) (by rw [hx]; exact e1) (iteT n1 (iteF (by rw [z0]; decide) (iteT (by rw [RefL.s c1.1]) (bindS y7 (iteT (by rw [RefL.r0 c1.1, RefL.a0 c1.1]; exact ⟨rfl, (mInb_iff (j := 431) (by omega)).mpr (by omega)⟩) ?_))))))
        rw [RefL.r0 c1.1]
        show (if nI (idl A r qt) < mI ν1 201 431 then _ else _) = _
        rw [gp]; exact hq
      by_cases lt : nI (idl A r qt) < nI (aC A 3)
      · rw [if_pos lt]
        exact ⟨ν1, g _ (iteT lt rfl), c1, f1⟩
      · rw [if_neg lt]
        by_cases vv : vid A r 10 = true
        · rw [if_pos vv]
          exact ⟨ν1, g _ (iteF lt (bindS e17 (iteT (by rw [vv]; decide) rfl))), c1, f1⟩
        · rw [if_neg vv]
          exact ⟨_, g _ (iteF lt (bindS e17 (iteF (by rw [show vid A r 10 = false by simpa using vv]; decide) (bindS (s6 1) rfl)))), c2 1, f1.trans (ff _ _ _)⟩
    · rw [if_neg z0]
      exact ⟨ν1, iteT (by rw [RefL.s hR]) (bindS (v := ν1) (by rw [hx]; exact e1) (iteT n1 (iteT (by show ¬ nI _ = nI 0; rw [nI_eq (by omega) (by omega)]; exact z0) rfl))), c1, f1⟩
end TW
