/-! the tick: links settle -/
section TU
variable {μ ν : mM} {A : Ab} {r t d n m k v : Nat} {qt : Bool}
def FrX (μ ν : mM) : Prop := FrF 11 μ ν ∧ ∀ a, a < 8 → mI ν (ro 11 a + 4) = mI μ (ro 11 a + 4)
theorem FrX.refl (μ : mM) : FrX μ μ := ⟨FrF.refl _ _, fun _ _ => rfl⟩
theorem FrX.trans {μ1 μ2 : mM} (h1 : FrX μ μ1) (h2 : FrX μ1 μ2) : FrX μ μ2 := ⟨h1.1.trans h2.1, fun a ha => (h2.2 a ha).trans (h1.2 a ha)⟩
def idl (A : Ab) (r : Nat) (qt : Bool) : Nat := if qt = true ∧ aR A r 6 < 2 then aR A r 7 + 1 else 0
def stl (A : Ab) (r : Nat) (qt : Bool) : Ab := if aR A r 6 = 1 then setR (setR A r 7 (idl A r qt)) r 6 (if qt = true then 2 else 0) else if aR A r 6 = 0 then (if nI (idl A r qt) < nI (aC A 3) then setR A r 7 (idl A r qt) else if vid A r 10 = true then setR A r 7 (idl A r qt) else setR (setR A r 7 (idl A r qt)) r 6 1) else setR A r 7 (idl A r qt)
theorem vid_R (hk : ¬ k = 3) {q : Nat} : ∀ n, vid (setR A r k v) q n = vid A q n
  | 0 => rfl
  | n + 1 => by
    show (vid (setR A r k v) q n || (us (setR A r k v) n q 0 && (aT A n 1 == 0))) = (vid A q n || (us A n q 0 && (aT A n 1 == 0)))
    rw [vid_R hk n, us_setR hk]
theorem set7_wf (ht : WFt A) (hu : WFu A) : WFt (setR A r 7 v) ∧ WFu (setR A r 7 v) := by
  refine ⟨ht.cgR (fun q k hk => by rw [aR_setR, if_neg (by omega)]) (fun q q1 q8 hq => ?_), wfu_cgR hu (fun q k hk => by rw [aR_setR, if_neg (by omega)]) rfl rfl hu.2.1 (fun q q1 q8 hq => ?_)⟩
  · obtain ⟨-, -, -, -, -, -, -, -, y5, y6, y9, y10, y8, yl⟩ := ht.w q1 q8 hq
    exact ⟨by rw [aR_setR, if_neg (by omega)]; exact y5, by rw [aR_setR, if_neg (by omega)]; exact y6, by rw [aR_setR, if_neg (by omega)]; exact y9, by rw [aR_setR, if_neg (by omega)]; exact y10, by rw [aR_setR, if_neg (by omega), aR_setR, if_neg (by omega)]; exact y8, yl⟩
  · rw [cap_cg (A := A) (A' := setR A r 7 v) (fun q => by rw [aR_setR, if_neg (by omega)]) (fun q => by rw [aR_setR, if_neg (by omega)]) (by rw [aR_setR, if_neg (by omega)])]; exact hu.rsv q1 q8 hq
theorem j10b (hK : ClsL (mS μ) (mP μ)) (hC : CS μ 11 A) (ht : WFt A) (hu : WFu A) (h1 : 1 ≤ r) (hr : r < 8) (hp : aR A r 0 = 1) {x : Int32} (hx : x = nI (idl A r qt)) : ∃ ν, s10_31 193 11 (nI r) μ (ro 11 r + 1) (bI qt) x (ro 11 r + 1) = some ν ∧ CS ν 11 (stl A r qt) ∧ FrX μ ν := by
  have hF := hC.1
  have hw := WN.of ht hu
  obtain ⟨-, -, -, -, -, -, -, -, w5, w6, -⟩ := ht.w h1 hr hp
  obtain ⟨t1, u1⟩ := set7_wf (r := r) (v := idl A r qt) ht hu
  have hw1 := WN.of t1 u1
  have c1 := CS.uR7 (v := idl A r qt) hC hw hr
  obtain ⟨ν1, hν⟩ : ∃ ν1, ν1 = mUI μ (ro 11 r + 1) 3 (nI (idl A r qt)) := ⟨_, rfl⟩
  rw [← hν] at c1
  have ff : ∀ ν k x, ¬ k = 1 → FrX ν (mUI ν (ro 11 r + 1) k x) := fun ν k x hk => ⟨FrF_ro (j := 1) hr (by omega) (Or.inl (by omega)), fun a ha => mI_UIr (by unfold ro; omega)⟩
  have f1 : FrX μ ν1 := by rw [hν]; exact ff _ _ _ (by omega)
  have hK1 := hK.fr f1.1.1
  have hF1 := c1.1
  have hp1 : aR (setR A r 7 (idl A r qt)) r 0 = 1 := by rw [aR_setR, if_neg (by omega)]; exact hp
  have g2 : mI ν1 (ro 11 r + 1) 2 = nI (aR A r 6) := by rw [RepC.g2 c1.2 h1 hr hp1, aR_setR, if_neg (by omega)]
  have g3 : mI ν1 (ro 11 r + 1) 3 = nI (idl A r qt) := by rw [hν, mI_UI, if_pos ⟨rfl, rfl⟩]
  have gp : mI ν1 11 2 = nI (aC A 3) := RepC.k2 (A := setR A r 7 (idl A r qt)) c1.2
  have e11 := j11 (q := 193) c1 t1 u1 hr
  rw [vid_R (by omega)] at e11
  have pre : ∀ q, (if ¬ nI (aR A r 6) = 1 then (if ¬ nI (aR A r 6) = 0 then (s10_60 193 11 (nI r) ν1) else (if (mS ν1 11).1 = 1 then if nI (idl A r qt) < nI (aC A 3) then (s10_60 193 11 (nI r) ν1) else (if (mS ν1 193).1 = 0 then (s11 ν1 193 11 (nI r)).bind fun q13 => if ¬ q13 = 0 then (s10_60 193 11 (nI r) ν1) else ((some (mUI ν1 (ro 11 r + 1) 2 1)).bind fun μ15 => s10_60 193 11 (nI r) μ15) else none) else none)) else (if bI qt = 0 then (s10_42 193 11 (nI r) ν1 0 (ro 11 r + 1)) else (s10_42 193 11 (nI r) ν1 2 (ro 11 r + 1)))) = q → s10_31 193 11 (nI r) μ (ro 11 r + 1) (bI qt) x (ro 11 r + 1) = q := fun q hq => by
    unfold s10_31
    refine iteT (by rw [FabL.ls hF hr]) (bindS (v := ν1) (by rw [hx, hν]) (iteT (by rw [FabL.ls hF1 hr]) ?_))
    rw [g2, g3, gp]; exact hq
  unfold stl
  by_cases z1 : aR A r 6 = 1
  · rw [if_pos z1]
    have c2 : ∀ v, CS (mUI ν1 (ro 11 r + 1) 2 (nI v)) 11 (setR (setR A r 7 (idl A r qt)) r 6 v) := fun v => CS.uR6 c1 hw1 hr
    cases qt
    · refine ⟨_, pre _ ?_, c2 0, f1.trans (ff _ 2 _ (by omega))⟩
      refine iteF (by rw [z1]; decide) (iteT rfl ?_)
      unfold s10_42
      exact iteT (by rw [FabL.ls hF1 hr]) rfl
    · refine ⟨_, pre _ ?_, c2 2, f1.trans (ff _ 2 _ (by omega))⟩
      refine iteF (by rw [z1]; decide) (iteF (by decide) ?_)
      unfold s10_42
      exact iteT (by rw [FabL.ls hF1 hr]) rfl
  · have n1 : ¬ nI (aR A r 6) = 1 := by show ¬ nI _ = nI 1; rw [nI_eq (by omega) (by omega)]; exact z1
    rw [if_neg z1]
    by_cases z0 : aR A r 6 = 0
    · rw [if_pos z0]
      by_cases lt : nI (idl A r qt) < nI (aC A 3)
      · rw [if_pos lt]
        exact ⟨ν1, pre _ (iteT n1 (iteF (by rw [z0]; decide) (iteT (by rw [FabL.s0 hF1]) (iteT lt rfl)))), c1, f1⟩
      · rw [if_neg lt]
        by_cases vv : vid A r 10 = true
        · rw [if_pos vv]
          exact ⟨ν1, pre _ (iteT n1 (iteF (by rw [z0]; decide) (iteT (by rw [FabL.s0 hF1]) (iteF lt (iteT (by rw [(ck_s hK1).1]) (bindS e11 (iteT (by rw [vv]; decide) rfl))))))), c1, f1⟩
        · rw [if_neg vv]
          refine ⟨mUI ν1 (ro 11 r + 1) 2 (nI 1), pre _ ?_, CS.uR6 c1 hw1 hr, f1.trans (ff _ 2 _ (by omega))⟩
          exact iteT n1 (iteF (by rw [z0]; decide) (iteT (by rw [FabL.s0 hF1]) (iteF lt (iteT (by rw [(ck_s hK1).1]) (bindS e11 (iteF (by rw [show vid A r 10 = false by simpa using vv]; decide) rfl))))))
    · rw [if_neg z0]
      exact ⟨ν1, pre _ (iteT n1 (iteT (by show ¬ nI _ = nI 0; rw [nI_eq (by omega) (by omega)]; exact z0) rfl)), c1, f1⟩
end TU
