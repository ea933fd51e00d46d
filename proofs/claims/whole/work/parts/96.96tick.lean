/-! the tick: a link's loads and its settling, both sides -/
section TY
variable {μ ν : mM} {A : Ab} {r s0 s1 n : Nat} {qt : Bool}
theorem mLoop_s {σ ε ρ : Type} {b : σ → Option (σ ⊕ (ε ⊕ ρ))} {s s' : σ} {n : Nat} (h : b s = some (.inl s')) : mLoop b (n + 1) s = mLoop b n s' := by
  rw [mLoop, h]
theorem mLoop_e {σ ε ρ : Type} {b : σ → Option (σ ⊕ (ε ⊕ ρ))} {s : σ} {o : ε ⊕ ρ} {n : Nat} (h : b s = some (.inr o)) : mLoop b (n + 1) s = some o := by
  rw [mLoop, h]
def ld2 (A : Ab) (r s0 s1 : Nat) : Ab := ldS (ldS A r 0 s0) r 1 s1
theorem ld2_wf (ht : WFt A) (hu : WFu A) (h1 : 1 ≤ r) (hr : r < 8) (hp : aR A r 0 = 1) (b0 : s0 ≤ cap A r 0) (b1 : s1 ≤ cap A r 1) : WFt (ld2 A r s0 s1) ∧ WFu (ld2 A r s0 s1) := by
  obtain ⟨t0, u0⟩ := ldS_wf (d := 0) ht hu h1 hr hp (by omega) b0
  exact ldS_wf (d := 1) t0 u0 h1 hr hp (by omega) b1
theorem j9 {q : Nat} (hC : CS μ 11 A) (ht : WFt A) (hu : WFu A) (h1 : 1 ≤ r) (hr : r < 8) (hp : aR A r 0 = 1) (v0 : mI μ (ro 11 r + 4) 0 = nI s0) (v1 : mI μ (ro 11 r + 4) 1 = nI s1) (b0 : s0 ≤ cap A r 0) (b1 : s1 ≤ cap A r 1) : ∃ ν, s9 μ q (ro 11 r + 1) = some ν ∧ CS ν 11 (ld2 A r s0 s1) ∧ FrX μ ν ∧ mI ν = mI μ := by
  obtain ⟨t0, u0⟩ := ldS_wf (d := 0) ht hu h1 hr hp (by omega) b0
  obtain ⟨e0, c0⟩ := j9d (d := 0) hC ht hu h1 hr hp (by omega) v0 b0
  obtain ⟨ν0, h0⟩ : ∃ ν0, ν0 = mUF μ (ro 11 r + 5) 0 (ldN (aL A r 0) s0 (cap A r 0)) := ⟨_, rfl⟩
  rw [← h0] at e0 c0
  have i0 : mI ν0 = mI μ := by rw [h0]; rfl
  have f0 : FrX μ ν0 := by rw [h0]; exact ⟨FrF_UF hr (by omega), fun _ _ => rfl⟩
  obtain ⟨e1, c1⟩ := j9d (d := 1) (s := s1) c0 t0 u0 h1 hr hp (by omega) (by rw [i0]; exact v1) b1
  obtain ⟨ν1, h1'⟩ : ∃ ν1, ν1 = mUF ν0 (ro 11 r + 5) 1 (ldN (aL (ldS A r 0 s0) r 1) s1 (cap (ldS A r 0 s0) r 1)) := ⟨_, rfl⟩
  rw [← h1'] at e1 c1
  have f1 : FrX ν0 ν1 := by rw [h1']; exact ⟨FrF_UF hr (by omega), fun _ _ => rfl⟩
  have e : mLoop (s9L2 (ro 11 r + 1)) 1000 (0, μ) = some (.inl ν1) := by
    refine (mLoop_s (n := 999) e0).trans ((mLoop_s (n := 998) e1).trans (mLoop_e (n := 997) ?_))
    unfold s9L2
    exact iteT (show nI 2 ≤ nI (1 + 1) by decide) rfl
  refine ⟨ν1, ?_, c1, f0.trans f1, by rw [h1', ← i0]; rfl⟩
  unfold s9
  exact bindS e rfl
theorem k218c (hM : RS μ A) (ht : WFt A) (hu : WFu A) (h1 : 1 ≤ r) (hr : r < 8) (hp : aR A r 0 = 1) : ∃ ν, s218_58 200 (nI r) μ (bI qt) = some ν ∧ RS ν (stl A r qt) ∧ Fr 201 202 μ ν := by
  have hR := hM.1
  obtain ⟨-, -, -, -, -, -, -, -, w5, w6, -⟩ := ht.w h1 hr hp
  have x6 := k148 hM hr (k := 6) (by omega)
  have x7 := k148 hM hr (k := 7) (by omega)
  by_cases z : aR A r 6 < 2
  · cases qt
    · have ix : idl A r false = 0 := by unfold idl; rw [if_neg (fun y => by cases y.1)]
      obtain ⟨ν, e, c, f⟩ := k218b (qt := false) (x := 0) hM ht hu h1 hr hp (by rw [ix]; rfl)
      refine ⟨ν, ?_, c, f⟩
      unfold s218_58
      exact iteT (by rw [RefL.s hR]) (bindS x6 (iteF (by show ¬ nI 2 ≤ nI _; rw [nI_leI (by omega) (by omega)]; omega) (iteT rfl e)))
    · have ix : idl A r true = aR A r 7 + 1 := by unfold idl; rw [if_pos ⟨rfl, z⟩]
      obtain ⟨ν, e, c, f⟩ := k218b (qt := true) (x := nI (aR A r 7) + 1) hM ht hu h1 hr hp (by rw [ix]; exact nI_add _ 1)
      refine ⟨ν, ?_, c, f⟩
      unfold s218_58
      exact iteT (by rw [RefL.s hR]) (bindS x6 (iteF (by show ¬ nI 2 ≤ nI _; rw [nI_leI (by omega) (by omega)]; omega) (iteF (by decide) (bindS x7 e))))
  · have ix : idl A r qt = 0 := by unfold idl; rw [if_neg (fun y => z y.2)]
    obtain ⟨ν, e, c, f⟩ := k218b (qt := qt) (x := 0) hM ht hu h1 hr hp (by rw [ix]; rfl)
    refine ⟨ν, ?_, c, f⟩
    unfold s218_58
    exact iteT (by rw [RefL.s hR]) (bindS x6 (iteT (by show nI 2 ≤ nI _; rw [nI_leI (by omega) (by omega)]; omega) e))
theorem k218 (hM : RS μ A) (ht : WFt A) (hu : WFu A) (h1 : 1 ≤ r) (hr : r < 8) (hp : aR A r 0 = 1) (v0 : mI μ 214 (2 * r + 0) = nI s0) (v1 : mI μ 214 (2 * r + 1) = nI s1) (b0 : s0 ≤ cap A r 0) (b1 : s1 ≤ cap A r 1) : ∃ ν, s218 μ 200 (nI r) = some ν ∧ RS ν (stl (ld2 A r s0 s1) r (decide (s0 + s1 = 0))) ∧ Fr 201 203 μ ν := by
  obtain ⟨t0, u0⟩ := ldS_wf (d := 0) ht hu h1 hr hp (by omega) b0
  obtain ⟨t1, u1⟩ := ld2_wf ht hu h1 hr hp b0 b1
  have k0 := cap_le A r 0
  have k1 := cap_le A r 1
  obtain ⟨e0, c0⟩ := k218d (d := 0) hM ht h1 hr hp (by omega) v0 b0
  obtain ⟨ν0, h0⟩ : ∃ ν0, ν0 = mUF μ 202 (2 * r + 0) (ldN (aL A r 0) s0 (cap A r 0)) := ⟨_, rfl⟩
  rw [← h0] at e0 c0
  have i0 : mI ν0 = mI μ := by rw [h0]; rfl
  have f0 : Fr 201 203 μ ν0 := by rw [h0]; exact Fr_UF μ (by omega) (by omega) _ _
  obtain ⟨e1, c1⟩ := k218d (d := 1) (s := s1) c0 t0 h1 hr hp (by omega) (by rw [i0]; exact v1) b1
  obtain ⟨ν1, h1'⟩ : ∃ ν1, ν1 = mUF ν0 202 (2 * r + 1) (ldN (aL (ldS A r 0 s0) r 1) s1 (cap (ldS A r 0 s0) r 1)) := ⟨_, rfl⟩
  rw [← h1'] at e1 c1
  have i1 : mI ν1 = mI μ := by rw [h1', ← i0]; rfl
  have f1 : Fr 201 203 ν0 ν1 := by rw [h1']; exact Fr_UF ν0 (by omega) (by omega) _ _
  have e : mLoop (s218L2 200 (nI r)) 1000 (0, μ) = some (.inl ν1) := by
    refine (mLoop_s (n := 999) e0).trans ((mLoop_s (n := 998) e1).trans (mLoop_e (n := 997) ?_))
    unfold s218L2
    exact iteT (show nI 2 ≤ nI (1 + 1) by decide) rfl
  have hR := c1.1
  have iy : (2 : Int32) * nI r = nI (2 * r + 0) := nI_mul 2 r
  have iz : nI (2 * r + 0) + 1 = nI (2 * r + 1) := nI_add (2 * r + 0) 1
  have m0 := m_cl (show 2 * r + 0 < 2 ^ 31 by omega)
  have m1 := m_cl (show 2 * r + 1 < 2 ^ 31 by omega)
  obtain ⟨ν, ez, cz, fz⟩ := k218c (A := ld2 A r s0 s1) (qt := decide (s0 + s1 = 0)) c1 t1 u1 h1 hr hp
  refine ⟨ν, ?_, cz, (f0.trans f1).trans (fz.mono (by omega) (by omega))⟩
  unfold s218
  refine bindS e ?_
  refine iteT (by rw [RefL.s hR]) (iteT (by rw [RefL.r15 hR, RefL.a15 hR, iy]; exact ⟨rfl, (mInb_iff (by omega)).mpr (by omega)⟩) (iteT (by rw [RefL.r15 hR, RefL.a15 hR, iy, iz]; exact ⟨rfl, (mInb_iff (by omega)).mpr (by omega)⟩) ?_))
  rw [RefL.r15 hR, iy, iz, m0, m1, i1, v0, v1, nI_add]
  by_cases z : s0 + s1 = 0
  · rw [decide_eq_true z] at ez
    exact iteF (by rw [z]; decide) ez
  · rw [decide_eq_false z] at ez
    exact iteT (by show ¬ nI _ = nI 0; rw [nI_eq (by omega) (by omega)]; exact z) ez
end TY
