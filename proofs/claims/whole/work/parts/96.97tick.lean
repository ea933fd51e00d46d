/-! the tick: all links settle, both sides -/
section TZ
variable {μ ν : mM} {A : Ab} {r s0 s1 n a b k : Nat} {qt : Bool} {o : Nat → Nat → Nat}
theorem stl_R (h : ¬ (k = 6 ∨ k = 7)) : aR (stl A r qt) a k = aR A a k := by
  have : ∀ j v B, (j = 6 ∨ j = 7) → aR (setR B r j v) a k = aR B a k := fun j v B hj => by
    rw [aR_setR, if_neg (fun z => h (by omega))]
  unfold stl
  repeat' split
  all_goals first | (rw [this _ _ _ (by omega), this _ _ _ (by omega)]) | (rw [this _ _ _ (by omega)])
theorem stl_2 : (stl A r qt).2 = A.2 := by
  unfold stl
  repeat' split
  all_goals rfl
/-- a router's loads, then its link's state -/
def fin1 (A : Ab) (o : Nat → Nat → Nat) (r : Nat) : Ab := if aR A r 0 = 1 then stl (ld2 A r (o r 0) (o r 1)) r (decide (o r 0 + o r 1 = 0)) else A
def finN (A : Ab) (o : Nat → Nat → Nat) : Nat → Ab
  | 0 => A
  | n + 1 => fin1 (finN A o n) o (n + 1)
theorem fin1_R (h : ¬ (k = 6 ∨ k = 7)) : aR (fin1 A o r) a k = aR A a k := by
  unfold fin1
  split
  · exact stl_R h
  · rfl
theorem fin1_2 : (fin1 A o r).2.1 = A.2.1 ∧ (fin1 A o r).2.2.1 = A.2.2.1 ∧ (fin1 A o r).2.2.2.1 = A.2.2.2.1 := by
  unfold fin1
  split
  · rw [stl_2]; exact ⟨rfl, rfl, rfl⟩
  · exact ⟨rfl, rfl, rfl⟩
theorem finN_R (h : ¬ (k = 6 ∨ k = 7)) : ∀ n, aR (finN A o n) a k = aR A a k
  | 0 => rfl
  | n + 1 => (fin1_R h).trans (finN_R h n)
theorem finN_2 : ∀ n, (finN A o n).2.1 = A.2.1 ∧ (finN A o n).2.2.1 = A.2.2.1 ∧ (finN A o n).2.2.2.1 = A.2.2.2.1
  | 0 => ⟨rfl, rfl, rfl⟩
  | n + 1 => by
    obtain ⟨a1, a2, a3⟩ := finN_2 n
    obtain ⟨b1, b2, b3⟩ := fin1_2 (A := finN A o n) (o := o) (r := n + 1)
    exact ⟨b1.trans a1, b2.trans a2, b3.trans a3⟩
theorem finN_cap : cap (finN A o n) a b = cap A a b := cap_cg (A := A) (A' := finN A o n) (fun q => finN_R (by omega) n) (fun q => finN_R (by omega) n) (finN_R (by omega) n)
/-- what went over the links is small -/
def Bd (A : Ab) (o : Nat → Nat → Nat) : Prop := ∀ a b, a < 8 → b < 2 → o a b ≤ cap A a b
theorem finN_wf (ht : WFt A) (hu : WFu A) (hb : Bd A o) : ∀ n, n < 8 → WFt (finN A o n) ∧ WFu (finN A o n)
  | 0, _ => ⟨ht, hu⟩
  | n + 1, hn => by
    obtain ⟨t, u⟩ := finN_wf ht hu hb n (by omega)
    show WFt (fin1 (finN A o n) o (n + 1)) ∧ WFu (fin1 (finN A o n) o (n + 1))
    unfold fin1
    split
    · rename_i hp
      obtain ⟨t1, u1⟩ := ld2_wf (r := n + 1) (s0 := o (n + 1) 0) (s1 := o (n + 1) 1) t u (by omega) hn hp (by rw [finN_cap]; exact hb _ _ hn (by omega)) (by rw [finN_cap]; exact hb _ _ hn (by omega))
      exact stl_wf t1 u1
    · exact ⟨t, u⟩
theorem j1d {x : Int32} (hK : ClsL (mS μ) (mP μ)) (hC : CS μ 11 A) (ht : WFt A) (hu : WFu A) (hb : Bd A o) (hv : ∀ a b, 1 ≤ a → a < 8 → b < 2 → aR A a 0 = 1 → mI μ (ro 11 a + 4) b = nI (o a b)) : ∃ ν, mLoop (s1L40 193 11 x) 1000 (1, μ) = some (.inl ν) ∧ CS ν 11 (finN A o 7) ∧ FrX μ ν := by
  obtain ⟨ν, e, c, f⟩ := mLoop_mem (b := s1L40 193 11 x) (μ := μ) (fun i ν => CS ν 11 (finN A o i) ∧ FrX μ ν) 1 7 (fun i ν hi hJ => by
    obtain ⟨c1, f1⟩ := hJ
    have hF := c1.1
    have hK' := hK.fr f1.1.1
    obtain ⟨t1, u1⟩ := finN_wf ht hu hb i (by omega)
    have mc := m_cl (show 1 + i < 2 ^ 31 by omega)
    have rp : mP ν (mP ν 11 0) (Int32.toNatClampNeg (nI (1 + i))) = ro 11 (1 + i) := by rw [FabL.p0 hF, mc, FabL.r hF (by omega)]
    have r0 := RepC.r0 c1.2 (show 1 + i < 8 by omega)
    have l1 := t1.le1 (show 1 + i < 8 by omega)
    rw [show finN A o (i + 1) = fin1 (finN A o i) o (1 + i) by rw [Nat.add_comm 1 i]; rfl]
    by_cases p : aR (finN A o i) (1 + i) 0 = 1
    · have p' : aR A (1 + i) 0 = 1 := by rw [finN_R (by omega)] at p; exact p
      have b0 : o (1 + i) 0 ≤ cap (finN A o i) (1 + i) 0 := by rw [finN_cap]; exact hb _ _ (by omega) (by omega)
      have b1 : o (1 + i) 1 ≤ cap (finN A o i) (1 + i) 1 := by rw [finN_cap]; exact hb _ _ (by omega) (by omega)
      have k0 := cap_le (finN A o i) (1 + i) 0
      have k1 := cap_le (finN A o i) (1 + i) 1
      obtain ⟨ν1, e1, c2, f2, i2⟩ := j9 (q := 193) (r := 1 + i) (s0 := o (1 + i) 0) (s1 := o (1 + i) 1) c1 t1 u1 (by omega) (by omega) p (by rw [f1.2 _ (by omega)]; exact hv _ _ (by omega) (by omega) (by omega) p') (by rw [f1.2 _ (by omega)]; exact hv _ _ (by omega) (by omega) (by omega) p') b0 b1
      obtain ⟨t2, u2⟩ := ld2_wf t1 u1 (by omega) (by omega) p b0 b1
      have hK1 := hK'.fr f2.1.1
      obtain ⟨ν2, e2, c3, f3⟩ := j10 (r := 1 + i) (s0 := o (1 + i) 0) (s1 := o (1 + i) 1) hK1 c2 t2 u2 (by omega) (by omega) p (by rw [i2, f1.2 _ (by omega)]; exact hv _ _ (by omega) (by omega) (by omega) p') (by rw [i2, f1.2 _ (by omega)]; exact hv _ _ (by omega) (by omega) (by omega) p') (by omega) (by omega)
      refine ⟨ν2, ?_, by unfold fin1; rw [if_pos p]; exact c3, (f1.trans f2).trans f3⟩
      unfold s1L40
      refine iteF (by show ¬ nI 8 ≤ nI (1 + i); rw [nI_leI (by omega) (by omega)]; omega) (iteT (by rw [FabL.s0 hF]) (iteT (by rw [FabL.p0 hF, FabL.s1 hF]; exact ⟨rfl, (mInb_iff (by omega)).mpr (by omega)⟩) (iteT (by rw [rp, FabL.rs hF (by omega)]) (iteF (by rw [rp, r0, p]; decide) (iteT (by rw [(ClsL.ck hK').1]) (bindS (v := ν1) (by rw [rp, FabL.rl hF (by omega)]; exact e1) (iteT (by rw [(ClsL.ck hK1).1]) (bindS e2 ?_))))))))
      show some (Sum.inl (nI (1 + i) + nI 1, _)) = _
      rw [nI_add]
    · have p0 : aR (finN A o i) (1 + i) 0 = 0 := by omega
      refine ⟨ν, ?_, by unfold fin1; rw [if_neg p]; exact c1, f1⟩
      unfold s1L40
      refine iteF (by show ¬ nI 8 ≤ nI (1 + i); rw [nI_leI (by omega) (by omega)]; omega) (iteT (by rw [FabL.s0 hF]) (iteT (by rw [FabL.p0 hF, FabL.s1 hF]; exact ⟨rfl, (mInb_iff (by omega)).mpr (by omega)⟩) (iteT (by rw [rp, FabL.rs hF (by omega)]) (iteT (by rw [rp, r0, p0]; rfl) ?_))))
      show some (Sum.inl (nI (1 + i) + nI 1, _)) = _
      rw [nI_add]) (fun ν hJ => by
    unfold s1L40
    exact iteT (show nI 8 ≤ nI (1 + 7) by decide) rfl) ⟨hC, FrX.refl _⟩ (n := 1000) (by omega)
  exact ⟨ν, e, c, f⟩
theorem k219d {x : Int32} (hM : RS μ A) (ht : WFt A) (hu : WFu A) (hb : Bd A o) (hv : ∀ a b, a < 8 → b < 2 → mI μ 214 (2 * a + b) = nI (o a b)) : ∃ ν, mLoop (s219L61 200 x) 1000 (1, μ) = some (.inl ν) ∧ RS ν (finN A o 7) ∧ Fr 201 203 μ ν := by
  obtain ⟨ν, e, c, f⟩ := mLoop_mem (b := s219L61 200 x) (μ := μ) (fun i ν => RS ν (finN A o i) ∧ Fr 201 203 μ ν) 1 7 (fun i ν hi hJ => by
    obtain ⟨c1, f1⟩ := hJ
    have hR := c1.1
    obtain ⟨t1, u1⟩ := finN_wf ht hu hb i (by omega)
    have l1 := t1.le1 (show 1 + i < 8 by omega)
    have x0 := k148 c1 (show 1 + i < 8 by omega) (k := 0) (by omega)
    have i2 := (f1.2 214 (by omega)).1
    rw [show finN A o (i + 1) = fin1 (finN A o i) o (1 + i) by rw [Nat.add_comm 1 i]; rfl]
    by_cases p : aR (finN A o i) (1 + i) 0 = 1
    · have b0 : o (1 + i) 0 ≤ cap (finN A o i) (1 + i) 0 := by rw [finN_cap]; exact hb _ _ (by omega) (by omega)
      have b1 : o (1 + i) 1 ≤ cap (finN A o i) (1 + i) 1 := by rw [finN_cap]; exact hb _ _ (by omega) (by omega)
      obtain ⟨ν1, e1, c2, f2⟩ := k218 (r := 1 + i) (s0 := o (1 + i) 0) (s1 := o (1 + i) 1) c1 t1 u1 (by omega) (by omega) p (by rw [i2]; exact hv _ _ (by omega) (by omega)) (by rw [i2]; exact hv _ _ (by omega) (by omega)) b0 b1
      refine ⟨ν1, ?_, by unfold fin1; rw [if_pos p]; exact c2, f1.trans f2⟩
      unfold s219L61
      refine iteF (by show ¬ nI 8 ≤ nI (1 + i); rw [nI_leI (by omega) (by omega)]; omega) (iteT (by rw [RefL.s hR]) (bindS x0 (iteF (by rw [p]; decide) (bindS e1 ?_))))
      show some (Sum.inl (nI (1 + i) + nI 1, _)) = _
      rw [nI_add]
    · refine ⟨ν, ?_, by unfold fin1; rw [if_neg p]; exact c1, f1⟩
      unfold s219L61
      refine iteF (by show ¬ nI 8 ≤ nI (1 + i); rw [nI_leI (by omega) (by omega)]; omega) (iteT (by rw [RefL.s hR]) (bindS x0 (iteT (by show ¬ nI _ = nI 1; rw [nI_eq (by omega) (by omega)]; exact p) ?_)))
      show some (Sum.inl (nI (1 + i) + nI 1, _)) = _
      rw [nI_add]) (fun ν hJ => by
    unfold s219L61
    exact iteT (show nI 8 ≤ nI (1 + 7) by decide) rfl) ⟨hM, Fr.refl _ _ _⟩ (n := 1000) (by omega)
  exact ⟨ν, e, c, f⟩
end TZ
