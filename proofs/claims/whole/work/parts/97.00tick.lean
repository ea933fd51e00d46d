/-! the ticks of a call, handed to the law -/
section UB
variable {μ ν : mM} {A : Ab} {n N : Nat} {L : Nat} {xs : Nat → Int32}
def tkQ (A : Ab) : Nat → Ab
  | 0 => A
  | n + 1 => tkD (tkQ A n)
def tkS (A : Ab) : Nat → Nat
  | 0 => 0
  | n + 1 => tkS A n + tkV (tkQ A n)
theorem j117 (hK : ClsL (mS μ) (mP μ)) (hC : CS μ 11 A) (ht : WFt A) (hu : WFu A) (hZ : SZ (mI μ) 11 A) (hN : N ≤ 50) : ∃ ν, mLoop (s117L11 2 (nI N)) 1000 (0, 0, μ) = some (.inl (nI (tkS A N), ν)) ∧ CS ν 11 (tkQ A N) ∧ SZ (mI ν) 11 (tkQ A N) ∧ FrC μ ν ∧ WFt (tkQ A N) ∧ WFu (tkQ A N) := by
  obtain ⟨o, e, ν, rfl, q⟩ := mLoop_inv0 (b := s117L11 2 (nI N)) (fun n st => ∃ ν, st = (nI (tkS A n), nI n, ν) ∧ CS ν 11 (tkQ A n) ∧ SZ (mI ν) 11 (tkQ A n) ∧ FrC μ ν ∧ WFt (tkQ A n) ∧ WFu (tkQ A n)) N (fun o => ∃ ν, o = .inl (nI (tkS A N), ν) ∧ CS ν 11 (tkQ A N) ∧ SZ (mI ν) 11 (tkQ A N) ∧ FrC μ ν ∧ WFt (tkQ A N) ∧ WFu (tkQ A N)) (fun n st hn hJ => by
    obtain ⟨ν, rfl, c1, z1, f1, t1, u1⟩ := hJ
    have hK1 := hK.fr f1.1
    obtain ⟨ν', e', c2, z2, f2, t2, u2⟩ := j1 hK1 c1 t1 u1 z1
    refine Or.inl ⟨(nI (tkS A (n + 1)), nI (n + 1), ν'), ?_, ν', rfl, c2, z2, ⟨f1.1.trans f2.1, fun h => f2.2 (f1.2 h)⟩, t2, u2⟩
    unfold s117L11
    refine iteF (by show ¬ nI N ≤ nI n; rw [nI_leI (by omega) (by omega)]; omega) (iteT (by rw [ClsL.s hK1]) (iteT (by rw [ClsL.p3 hK1, (ck_s hK1).1]) (bindS (v := (nI (tkV (tkQ A n)), ν')) (by rw [ClsL.p3 hK1, ClsL.p1 hK1]; exact e') ?_)))
    show some (Sum.inl (nI (tkS A n) + nI (tkV (tkQ A n)), nI n + nI 1, ν')) = _
    rw [nI_add, nI_add]; rfl) (fun st hJ => by
    obtain ⟨ν, rfl, q⟩ := hJ
    refine ⟨_, ?_, ν, rfl, q⟩
    unfold s117L11
    exact iteT (by show nI N ≤ nI N; rw [nI_leI (by omega) (by omega)]; exact Nat.le_refl _) rfl) (s := (0, 0, μ)) ⟨μ, rfl, hC, hZ, FrC.refl _, ht, hu⟩ (n := 1000) (by omega)
  exact ⟨ν, e, q⟩
theorem k220 (hM : RS μ A) (hw : ∀ n, n ≤ N → WFt (tkQ A n) ∧ WFu (tkQ A n)) (hN : N ≤ 50) : ∃ ν, mLoop (s220L11 200 (nI N)) 1000 (0, 0, μ) = some (.inl (nI (tkS A N), ν)) ∧ RS ν (tkQ A N) ∧ FrR μ ν := by
  obtain ⟨o, e, ν, rfl, q⟩ := mLoop_inv0 (b := s220L11 200 (nI N)) (fun n st => ∃ ν, st = (nI (tkS A n), nI n, ν) ∧ RS ν (tkQ A n) ∧ FrR μ ν) N (fun o => ∃ ν, o = .inl (nI (tkS A N), ν) ∧ RS ν (tkQ A N) ∧ FrR μ ν) (fun n st hn hJ => by
    obtain ⟨ν, rfl, c1, f1⟩ := hJ
    obtain ⟨t1, u1⟩ := hw n (by omega)
    obtain ⟨ν', e', c2, f2⟩ := k219 c1 t1 u1
    refine Or.inl ⟨(nI (tkS A (n + 1)), nI (n + 1), ν'), ?_, ν', rfl, c2, f1.trans f2⟩
    unfold s220L11
    refine iteF (by show ¬ nI N ≤ nI n; rw [nI_leI (by omega) (by omega)]; omega) (iteT (by rw [RefL.s c1.1]) (bindS e' ?_))
    show some (Sum.inl (nI (tkS A n) + nI (tkV (tkQ A n)), nI n + nI 1, ν')) = _
    rw [nI_add, nI_add]; rfl) (fun st hJ => by
    obtain ⟨ν, rfl, q⟩ := hJ
    refine ⟨_, ?_, ν, rfl, q⟩
    unfold s220L11
    exact iteT (by show nI N ≤ nI N; rw [nI_leI (by omega) (by omega)]; exact Nat.le_refl _) rfl) (s := (0, 0, μ)) ⟨μ, rfl, hM, FrR.refl _⟩ (n := 1000) (by omega)
  exact ⟨ν, e, q⟩
theorem op20 : Op20 (Inv L xs) := fun x => CI_op fun μ A hS hZ => by
  obtain ⟨hK, hC, hM, ht, hu⟩ := hS
  rcases btw μ x 1 50 (by omega) (by omega) with ⟨i, rfl, h1, hi, l1, -⟩ | ⟨-, l1, l2⟩
  · have hw : ∀ n, n ≤ i → WFt (tkQ A n) ∧ WFu (tkQ A n) := fun n hn => by
      obtain ⟨-, -, -, -, -, t, u⟩ := j117 (N := n) hK hC ht hu hZ (by omega)
      exact ⟨t, u⟩
    obtain ⟨μ1, e1, c1, z1, f1, t1, u1⟩ := j117 (N := i) hK hC ht hu hZ hi
    have hM1 := f1.rs hM
    obtain ⟨μ2, e2, c2, f2⟩ := k220 (N := i) hM1 hw hi
    refine ⟨nI (tkS A i), μ1, μ2, tkQ A i, ?_, f1, c1, z1, ?_, f2, c2, t1, u1⟩
    · unfold s117
      exact bindS l1 (iteT (show ¬ nI 1 = 0 by decide) (bindS e1 rfl))
    · rcases btw μ1 (nI i) 1 50 (by omega) (by omega) with ⟨-, -, -, -, -, l2⟩ | ⟨z, -, -⟩
      · unfold s220
        exact bindS l2 (iteT (show ¬ nI 1 = 0 by decide) (bindS e2 rfl))
      · exfalso
        rw [nI_ltI (by omega) (by omega), nI_ltI (by omega) (by omega)] at z
        omega
  · refine ⟨-1, μ, μ, A, ?_, FrC.refl _, hC, hZ, ?_, FrR.refl _, hM, ht, hu⟩
    · unfold s117
      exact bindS l1 (iteF (show ¬ ¬ nI 0 = 0 by decide) rfl)
    · unfold s220
      exact bindS l2 (iteF (show ¬ ¬ nI 0 = 0 by decide) rfl)
end UB
