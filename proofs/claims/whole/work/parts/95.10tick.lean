/-! the tick: links wake -/
section TB
variable {μ ν : mM} {A : Ab} {r t d h i n k v f : Nat}
theorem setR_same (h : aR A r k = v) : setR A r k v = A := by
  show (up2 A.1 r k v, A.2) = (A.1, A.2)
  congr 1
  funext a b
  show (if a = r ∧ b = k then v else A.1 a b) = A.1 a b
  split
  · rename_i e
    rw [e.1, e.2]; exact h.symm
  · rfl
theorem WN_setR (hw : WN A) (hk : ¬ k = 3) : WN (setR A r k v) := by
  intro t d a b
  rw [wN_cg (A := A) (A' := setR A r k v) (fun q => by rw [aR_setR, if_neg (fun z => hk z.2.symm)]) rfl rfl]; exact hw t d a b
def stir (A : Ab) (r : Nat) : Ab := if aR A r 0 = 1 then (if aR A r 6 = 3 then setR (setR A r 8 (aR A r 8 - 1)) r 6 (if aR A r 8 - 1 = 0 then 0 else 3) else if aR A r 6 = 2 ∧ awt A r 10 = true then setR (setR A r 6 3) r 8 2 else A) else A
theorem stir_2 : (stir A r).2 = A.2 := by
  unfold stir
  repeat' split
  all_goals rfl
theorem stir_R {a : Nat} (h : ¬ (a = r ∧ (k = 6 ∨ k = 8))) : aR (stir A r) a k = aR A a k := by
  have : ∀ j v B, (j = 6 ∨ j = 8) → aR (setR B r j v) a k = aR B a k := fun j v B hj => by
    rw [aR_setR, if_neg (fun z => h ⟨z.1, by omega⟩)]
  unfold stir
  repeat' split
  all_goals first | rfl | (rw [this _ _ _ (by omega), this _ _ _ (by omega)])
theorem stir_wf (ht : WFt A) (hu : WFu A) (h1 : 1 ≤ r) (hr : r < 8) : WFt (stir A r) ∧ WFu (stir A r) := by
  have e2 : (stir A r).2 = A.2 := stir_2
  refine ⟨ht.cgR (fun a k hk => stir_R (by omega)) (fun a a1 a8 hp => ?_), wfu_cgR hu (fun a k hk => stir_R (by omega)) (by rw [e2]) (by rw [e2]) ?_ (fun a a1 a8 hp => ?_)⟩
  · obtain ⟨-, -, -, -, -, -, -, -, w5, w6, w9, w10, w8, wl⟩ := ht.w a1 a8 hp
    refine ⟨by rw [stir_R (by omega)]; exact w5, ?_, by rw [stir_R (by omega)]; exact w9, by rw [stir_R (by omega)]; exact w10, ?_, fun d hd => by show ((stir A r).2.2.2.2 a d).toNat ≤ _; rw [e2]; exact wl d hd⟩
    · by_cases e : a = r
      · subst e
        unfold stir
        rw [if_pos hp]
        repeat' split
        all_goals first | exact w6 | (simp only [aR_setR]; simp; done) | (simp only [aR_setR]; simp; omega)
      · rw [stir_R (by omega)]; exact w6
    · by_cases e : a = r
      · subst e
        unfold stir
        rw [if_pos hp]
        by_cases z3 : aR A a 6 = 3
        · have := w8 z3
          rw [if_pos z3]
          simp only [aR_setR]
          by_cases z : aR A a 8 - 1 = 0
          · simp [z]
          · simp [z]; omega
        · rw [if_neg z3]
          split
          · simp only [aR_setR]; simp
          · exact w8
      · rw [stir_R (by omega), stir_R (by omega)]; exact w8
  · show (stir A r).2.2.2.1 3 ≤ 9 ∧ 1 ≤ (stir A r).2.2.2.1 3
    rw [e2]; exact hu.2.1
  · rw [cap_cg (A := A) (fun q => stir_R (by omega)) (fun q => stir_R (by omega)) (stir_R (by omega))]; exact hu.rsv a1 a8 hp
theorem j2 (hK : ClsL (mS μ) (mP μ)) (hC : CS μ 11 A) (ht : WFt A) (hu : WFu A) (h1 : 1 ≤ r) (hr : r < 8) (hp : aR A r 0 = 1) : ∃ ν, s2 μ 193 11 (nI r) = some ν ∧ CS ν 11 (stir A r) ∧ FrF 11 μ ν := by
  have hF := hC.1
  have hw := WN.of ht hu
  have hK0 : mS μ 193 = (0, 2) := (ClsL.ck hK).1
  obtain ⟨-, -, -, -, -, -, -, -, w5, w6, w9, w10, w8, wl⟩ := ht.w h1 hr hp
  have g2 : mI μ (mP μ (ro 11 r) 6) 2 = nI (aR A r 6) := by rw [FabL.rl hF hr]; exact RepC.g2 hC.2 h1 hr hp
  have ff : ∀ ν k x, ¬ k = 1 → FrF 11 ν (mUI ν (ro 11 r + 1) k x) := fun ν k x hk => FrF_ro (j := 1) hr (by omega) (Or.inl (by omega))
  unfold s2 stir
  rw [if_pos hp]
  by_cases z3 : aR A r 6 = 3
  · obtain ⟨n1, n2⟩ := w8 z3
    rw [if_pos z3]
    have e1 : mI μ (mP μ (ro 11 r) 6) 4 - 1 = nI (aR A r 8 - 1) := by rw [FabL.rl hF hr, RepC.g4 hC.2 h1 hr hp]; exact nI_sub (b := 1) (by omega)
    have c1 : CS (mUI μ (ro 11 r + 1) 4 (nI (aR A r 8 - 1))) 11 (setR A r 8 (aR A r 8 - 1)) := CS.uR8 hC hw hr
    have hw1 : WN (setR A r 8 (aR A r 8 - 1)) := WN_setR hw (by omega)
    have rd : mI (mUI μ (ro 11 r + 1) 4 (nI (aR A r 8 - 1))) (mP μ (ro 11 r) 6) 4 = nI (aR A r 8 - 1) := by rw [FabL.rl hF hr, mI_UI, if_pos ⟨rfl, rfl⟩]
    by_cases z : aR A r 8 - 1 = 0
    · rw [if_pos z]
      have c2 : CS (mUI (mUI μ (ro 11 r + 1) 4 (nI (aR A r 8 - 1))) (ro 11 r + 1) 4 (nI 0)) 11 (setR A r 8 (aR A r 8 - 1)) := by
        have := CS.uR8 (v := 0) c1 hw1 hr
        rw [setR_same (by rw [aR_setR, if_pos ⟨rfl, rfl⟩]; exact z)] at this
        exact this
      have c3 := CS.uR6 (v := 0) c2 hw1 hr
      refine ⟨_, ?_, c3, ((ff _ 4 _ (by omega)).trans (ff _ 4 _ (by omega))).trans (ff _ 2 _ (by omega))⟩
      refine iteT (by rw [FabL.s0 hF]) (bindS (j18 hF hr) (iteT (by rw [FabL.rs hF hr]) (iteT (by rw [FabL.rl hF hr, FabL.ls hF hr]) (iteF (by rw [g2, z3]; decide) (bindS (v := mUI μ (ro 11 r + 1) 4 (nI (aR A r 8 - 1))) (by rw [e1, FabL.rl hF hr]) (iteF (by rw [rd, z]; decide) (bindS (v := mUI (mUI μ (ro 11 r + 1) 4 (nI (aR A r 8 - 1))) (ro 11 r + 1) 4 (nI 0)) (by rw [FabL.rl hF hr]; rfl) (bindS (v := mUI (mUI (mUI μ (ro 11 r + 1) 4 (nI (aR A r 8 - 1))) (ro 11 r + 1) 4 (nI 0)) (ro 11 r + 1) 2 (nI 0)) (by rw [FabL.rl hF hr]; rfl) rfl))))))))
    · rw [if_neg z, setR_same (A := setR A r 8 (aR A r 8 - 1)) (by rw [aR_setR, if_neg (by omega)]; exact z3)]
      refine ⟨_, ?_, c1, ff _ 4 _ (by omega)⟩
      exact iteT (by rw [FabL.s0 hF]) (bindS (j18 hF hr) (iteT (by rw [FabL.rs hF hr]) (iteT (by rw [FabL.rl hF hr, FabL.ls hF hr]) (iteF (by rw [g2, z3]; decide) (bindS (v := mUI μ (ro 11 r + 1) 4 (nI (aR A r 8 - 1))) (by rw [e1, FabL.rl hF hr]) (iteT (by rw [rd]; show nI 0 < nI _; rw [nI_ltI (by omega) (by omega)]; omega) rfl))))))
  · rw [if_neg z3]
    have n3 : ¬ nI (aR A r 6) = 3 := by show ¬ nI _ = nI 3; rw [nI_eq (by omega) (by omega)]; exact z3
    by_cases s2' : aR A r 6 = 2
    · by_cases w : awt A r 10 = true
      · rw [if_pos (show aR A r 6 = 2 ∧ awt A r 10 = true from ⟨s2', w⟩)]
        have c1 : CS (mUI μ (ro 11 r + 1) 2 (nI 3)) 11 (setR A r 6 3) := CS.uR6 hC hw hr
        have hw1 : WN (setR A r 6 3) := WN_setR hw (by omega)
        have c2 := CS.uR8 (v := 2) c1 hw1 hr
        refine ⟨_, ?_, c2, (ff _ 2 _ (by omega)).trans (ff _ 4 _ (by omega))⟩
        refine iteT (by rw [FabL.s0 hF]) (bindS (j18 hF hr) (iteT (by rw [FabL.rs hF hr]) (iteT (by rw [FabL.rl hF hr, FabL.ls hF hr]) (iteT (by rw [g2]; exact n3) (iteF (by rw [g2, s2']; decide) (iteT (by rw [hK0]) (bindS (j3 hC ht hu hr) (iteF (by rw [w]; decide) (bindS (v := mUI (mUI μ (ro 11 r + 1) 2 (nI 3)) (ro 11 r + 1) 4 (nI 2)) ?_ rfl)))))))))
        rw [FabL.rl hF hr]
        unfold s56
        exact iteT (by rw [FabL.ls hF hr]) rfl
      · rw [if_neg (show ¬ (aR A r 6 = 2 ∧ awt A r 10 = true) from fun z => w z.2)]
        refine ⟨μ, ?_, hC, FrF.refl _ _⟩
        exact iteT (by rw [FabL.s0 hF]) (bindS (j18 hF hr) (iteT (by rw [FabL.rs hF hr]) (iteT (by rw [FabL.rl hF hr, FabL.ls hF hr]) (iteT (by rw [g2]; exact n3) (iteF (by rw [g2, s2']; decide) (iteT (by rw [hK0]) (bindS (j3 hC ht hu hr) (iteT (by rw [show awt A r 10 = false by simpa using w]; rfl) rfl))))))))
    · rw [if_neg (show ¬ (aR A r 6 = 2 ∧ awt A r 10 = true) from fun z => s2' z.1)]
      refine ⟨μ, ?_, hC, FrF.refl _ _⟩
      exact iteT (by rw [FabL.s0 hF]) (bindS (j18 hF hr) (iteT (by rw [FabL.rs hF hr]) (iteT (by rw [FabL.rl hF hr, FabL.ls hF hr]) (iteT (by rw [g2]; exact n3) (iteT (by rw [g2]; show ¬ nI _ = nI 2; rw [nI_eq (by omega) (by omega)]; exact s2') rfl)))))
/-- the routers below n + 1 have stirred -/
def stN (A : Ab) : Nat → Ab
  | 0 => A
  | n + 1 => stir (stN A n) (n + 1)
theorem stN_0 : ∀ n, aR (stN A n) r 0 = aR A r 0
  | 0 => rfl
  | n + 1 => by
    show aR (stir (stN A n) (n + 1)) r 0 = _
    rw [stir_R (by omega), stN_0 n]
theorem stN_wf (ht : WFt A) (hu : WFu A) : ∀ n, n < 8 → WFt (stN A n) ∧ WFu (stN A n)
  | 0, _ => ⟨ht, hu⟩
  | n + 1, hn => by
    obtain ⟨a, b⟩ := stN_wf ht hu n (by omega)
    exact stir_wf a b (by omega) hn
theorem stN_2 : ∀ n, (stN A n).2 = A.2
  | 0 => rfl
  | n + 1 => (stir_2 (A := stN A n)).trans (stN_2 n)
theorem j1a (hK : ClsL (mS μ) (mP μ)) (hC : CS μ 11 A) (ht : WFt A) (hu : WFu A) : ∃ ν, mLoop (s1L2 193 11) 1000 (1, μ) = some (.inl ν) ∧ CS ν 11 (stN A 7) ∧ FrF 11 μ ν := by
  obtain ⟨ν, e, c, f⟩ := mLoop_mem (b := s1L2 193 11) (μ := μ) (fun i ν => CS ν 11 (stN A i) ∧ FrF 11 μ ν) 1 7 (fun i ν hi hJ => by
    obtain ⟨c1, f1⟩ := hJ
    have hF := c1.1
    have hK' := hK.fr f1.1
    obtain ⟨t1, u1⟩ := stN_wf ht hu i (by omega)
    have mc := m_cl (show 1 + i < 2 ^ 31 by omega)
    have rp : mP ν (mP ν 11 0) (Int32.toNatClampNeg (nI (1 + i))) = ro 11 (1 + i) := by rw [FabL.p0 hF, mc, FabL.r hF (by omega)]
    have r0 := RepC.r0 c1.2 (show 1 + i < 8 by omega)
    have l1 := t1.le1 (show 1 + i < 8 by omega)
    rw [show stN A (i + 1) = stir (stN A i) (1 + i) by rw [Nat.add_comm 1 i]; rfl]
    by_cases p : aR (stN A i) (1 + i) 0 = 1
    · obtain ⟨ν', e', c', f'⟩ := j2 hK' c1 t1 u1 (r := 1 + i) (by omega) (by omega) p
      refine ⟨ν', ?_, c', f1.trans f'⟩
      unfold s1L2
      refine iteF (by show ¬ nI 8 ≤ nI (1 + i); rw [nI_leI (by omega) (by omega)]; omega) (iteT (by rw [FabL.s0 hF]) (iteT (by rw [FabL.p0 hF, FabL.s1 hF]; exact ⟨rfl, (mInb_iff (by omega)).mpr (by omega)⟩) (iteT (by rw [rp, FabL.rs hF (by omega)]) (iteF (by rw [rp, r0, p]; decide) (iteT (by rw [(ClsL.ck hK').1]) (bindS e' ?_))))))
      show some (Sum.inl (nI (1 + i) + nI 1, _)) = _
      rw [nI_add]
    · have p0 : aR (stN A i) (1 + i) 0 = 0 := by omega
      refine ⟨ν, ?_, by unfold stir; rw [if_neg p]; exact c1, f1⟩
      unfold s1L2
      refine iteF (by show ¬ nI 8 ≤ nI (1 + i); rw [nI_leI (by omega) (by omega)]; omega) (iteT (by rw [FabL.s0 hF]) (iteT (by rw [FabL.p0 hF, FabL.s1 hF]; exact ⟨rfl, (mInb_iff (by omega)).mpr (by omega)⟩) (iteT (by rw [rp, FabL.rs hF (by omega)]) (iteT (by rw [rp, r0, p0]; rfl) ?_))))
      show some (Sum.inl (nI (1 + i) + nI 1, _)) = _
      rw [nI_add]) (fun ν hJ => by
    unfold s1L2
    exact iteT (show nI 8 ≤ nI (1 + 7) by decide) rfl) ⟨hC, FrF.refl _ _⟩ (n := 1000) (by omega)
  exact ⟨ν, e, c, f⟩
theorem k211 (hM : RS μ A) (ht : WFt A) (hu : WFu A) : ∃ ν, s211 μ 200 = some ν ∧ RS ν (stN A 7) ∧ Fr 201 202 μ ν := by
  obtain ⟨ν, e, c, f⟩ := mLoop_mem (b := s211L2 200) (μ := μ) (fun i ν => RS ν (stN A i) ∧ Fr 201 202 μ ν) 1 7 (fun i ν hi hJ => by
    obtain ⟨c1, f1⟩ := hJ
    have hR := c1.1
    obtain ⟨t1, u1⟩ := stN_wf ht hu i (by omega)
    obtain ⟨B, hB⟩ : ∃ B, B = stN A i := ⟨_, rfl⟩
    rw [show stN A (i + 1) = stir (stN A i) (1 + i) by rw [Nat.add_comm 1 i]; rfl]
    rw [← hB] at c1 t1 u1 ⊢
    obtain ⟨r, hr⟩ : ∃ r, r = 1 + i := ⟨_, rfl⟩
    rw [← hr]
    have l1 := t1.le1 (show r < 8 by omega)
    have nx : nI r + 1 = nI (r + 1) := nI_add r 1
    have x0 := k148 c1 (show r < 8 by omega) (k := 0) (by omega)
    have x6 := k148 c1 (show r < 8 by omega) (k := 6) (by omega)
    have x8 := k148 c1 (show r < 8 by omega) (k := 8) (by omega)
    have ff : ∀ ν' k x, Fr 201 202 ν' (mUI ν' 201 k x) := fun ν' k x => Fr_UI ν' (by omega) (by omega) _ _
    unfold stir
    by_cases p : aR B r 0 = 1
    · obtain ⟨-, -, -, -, -, -, -, -, w5, w6, w9, w10, w8, wl⟩ := t1.w (show 1 ≤ r by omega) (by omega) p
      rw [if_pos p]
      by_cases z3 : aR B r 6 = 3
      · obtain ⟨n1, n2⟩ := w8 z3
        rw [if_pos z3]
        have c2 : RS (mUI ν 201 (9 * r + 8) (nI (aR B r 8 - 1))) (setR B r 8 (aR B r 8 - 1)) := RS.uR c1 (by omega) (by omega)
        have y8 := k148 c2 (show r < 8 by omega) (k := 8) (by omega)
        rw [aR_setR, if_pos ⟨rfl, rfl⟩] at y8
        have e1 : nI (aR B r 8) - 1 = nI (aR B r 8 - 1) := nI_sub (b := 1) (by omega)
        have main : ∀ x, s211L2_38 200 (mUI ν 201 (9 * r + 8) (nI (aR B r 8 - 1))) (nI r) (nI x) (nI 6) (nI r) 200 = some (.inl (nI (r + 1), mUI (mUI ν 201 (9 * r + 8) (nI (aR B r 8 - 1))) 201 (9 * r + 6) (nI x))) := fun x => by
          unfold s211L2_38
          refine iteT (by rw [RefL.s c2.1]) (bindS (k149 c2 (by omega) (by omega)) ?_)
          show some (Sum.inl (nI r + 1, _)) = _
          rw [nx]
        refine ⟨_, ?_, RS.uR (k := 6) c2 (by omega) (by omega), (f1.trans (ff _ _ _)).trans (ff _ _ _)⟩
        unfold s211L2
        refine iteF (by show ¬ nI 8 ≤ nI r; rw [nI_leI (by omega) (by omega)]; omega) (iteT (by rw [RefL.s hR]) (bindS x0 (iteF (by rw [p]; decide) (bindS x6 (iteF (by rw [z3]; decide) (bindS x8 (bindS (v := mUI ν 201 (9 * r + 8) (nI (aR B r 8 - 1))) (by rw [e1]; exact k149 c1 (by omega) (k := 8) (by omega)) (iteT (by rw [RefL.s c2.1]) (bindS y8 ?_)))))))))
        by_cases z : aR B r 8 - 1 = 0
        · rw [if_pos z]
          exact iteF (by rw [z]; decide) (main 0)
        · rw [if_neg z]
          exact iteT (by show ¬ nI _ = nI 0; rw [nI_eq (by omega) (by omega)]; exact z) (main 3)
      · rw [if_neg z3]
        have n3 : ¬ nI (aR B r 6) = 3 := by show ¬ nI _ = nI 3; rw [nI_eq (by omega) (by omega)]; exact z3
        have pre : ∀ q, s211L2_40 200 ν (nI r) = some q → s211L2 200 (nI r, ν) = some q := fun q hq => by
          unfold s211L2
          exact iteF (by show ¬ nI 8 ≤ nI r; rw [nI_leI (by omega) (by omega)]; omega) (iteT (by rw [RefL.s hR]) (bindS x0 (iteF (by rw [p]; decide) (bindS x6 (iteT n3 hq)))))
        by_cases s2' : aR B r 6 = 2
        · have x9 := k210 c1 t1 u1 (show r < 8 by omega)
          by_cases w : awt B r 10 = true
          · rw [if_pos (show aR B r 6 = 2 ∧ awt B r 10 = true from ⟨s2', w⟩)]
            have c2 : RS (mUI ν 201 (9 * r + 6) (nI 3)) (setR B r 6 3) := RS.uR c1 (by omega) (by omega)
            refine ⟨_, pre _ ?_, RS.uR (k := 8) (v := 2) c2 (by omega) (by omega), (f1.trans (ff _ _ _)).trans (ff _ _ _)⟩
            unfold s211L2_40
            refine iteT (by rw [RefL.s hR]) (bindS x0 (iteF (by rw [p]; decide) (bindS x6 (iteF (by rw [s2']; decide) (bindS x9 (iteF (by rw [w]; decide) (bindS (k149 c1 (by omega) (k := 6) (v := 3) (by omega)) (iteT (by rw [RefL.s c2.1]) (bindS (k149 c2 (by omega) (k := 8) (v := 2) (by omega)) ?_)))))))))
            show some (Sum.inl (nI r + 1, _)) = _
            rw [nx]
          · rw [if_neg (show ¬ (aR B r 6 = 2 ∧ awt B r 10 = true) from fun z => w z.2)]
            refine ⟨ν, pre _ ?_, c1, f1⟩
            unfold s211L2_40
            refine iteT (by rw [RefL.s hR]) (bindS x0 (iteF (by rw [p]; decide) (bindS x6 (iteF (by rw [s2']; decide) (bindS x9 (iteT (by rw [show awt B r 10 = false by simpa using w]; rfl) ?_))))))
            show some (Sum.inl (nI r + 1, _)) = _
            rw [nx]
        · rw [if_neg (show ¬ (aR B r 6 = 2 ∧ awt B r 10 = true) from fun z => s2' z.1)]
          refine ⟨ν, pre _ ?_, c1, f1⟩
          unfold s211L2_40
          refine iteT (by rw [RefL.s hR]) (bindS x0 (iteF (by rw [p]; decide) (bindS x6 (iteT (by show ¬ nI _ = nI 2; rw [nI_eq (by omega) (by omega)]; exact s2') ?_))))
          show some (Sum.inl (nI r + 1, _)) = _
          rw [nx]
    · rw [if_neg p]
      have pn : ¬ nI (aR B r 0) = 1 := by show ¬ nI _ = nI 1; rw [nI_eq (by omega) (by omega)]; exact p
      refine ⟨ν, ?_, c1, f1⟩
      unfold s211L2
      refine iteF (by show ¬ nI 8 ≤ nI r; rw [nI_leI (by omega) (by omega)]; omega) (iteT (by rw [RefL.s hR]) (bindS x0 (iteT pn ?_)))
      unfold s211L2_40
      refine iteT (by rw [RefL.s hR]) (bindS x0 (iteT pn ?_))
      show some (Sum.inl (nI r + 1, _)) = _
      rw [nx]) (fun ν hJ => by
    unfold s211L2
    exact iteT (show nI 8 ≤ nI (1 + 7) by decide) rfl) ⟨hM, Fr.refl _ _ _⟩ (n := 1000) (by omega)
  refine ⟨ν, ?_, c, f⟩
  unfold s211
  exact bindS e rfl
end TB
