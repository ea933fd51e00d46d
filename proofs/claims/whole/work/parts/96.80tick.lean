/-! the tick: loads, both sides -/
section TS
variable {μ ν ν1 : mM} {A B : Ab} {r t d n m k a b v c e h : Nat}
def ldS (A : Ab) (r d s : Nat) : Ab := setL A r d (ldN (aL A r d) s (cap A r d))
theorem aL_set {x : UInt32} : aL (setL A r d x) a b = if a = r ∧ b = d then x else aL A a b := rfl
theorem ldS_wf {s : Nat} (ht : WFt A) (hu : WFu A) (h1 : 1 ≤ r) (hr : r < 8) (hp : aR A r 0 = 1) (hd : d < 2) (hs : s ≤ cap A r d) : WFt (ldS A r d s) ∧ WFu (ldS A r d s) := by
  have hc := cap_le A r d
  refine ⟨ht.cgR (fun _ _ _ => rfl) (fun q q1 q8 hq => ?_), wfu_cgR hu (fun _ _ _ => rfl) rfl rfl hu.2.1 (fun q q1 q8 hq => ?_)⟩
  · obtain ⟨-, -, -, -, -, -, -, -, y5, y6, y9, y10, y8, yl⟩ := ht.w q1 q8 hq
    refine ⟨y5, y6, y9, y10, y8, fun b hb => ?_⟩
    unfold ldS
    rw [aL_set]
    by_cases z : q = r ∧ b = d
    · rw [if_pos z]
      obtain ⟨-, -, -, -, -, -, -, -, -, -, -, -, -, wl⟩ := ht.w h1 hr hp
      exact (ld_ok (wl d hd) hc.1 hc.2 hs).2.2.2
    · rw [if_neg z]; exact yl b hb
  · rw [cap_cg (A := A) (A' := ldS A r d s) (fun _ => rfl) (fun _ => rfl) rfl]; exact hu.rsv q1 q8 hq
theorem j9d {s : Nat} (hC : CS μ 11 A) (ht : WFt A) (hu : WFu A) (h1 : 1 ≤ r) (hr : r < 8) (hp : aR A r 0 = 1) (hd : d < 2) (hv : mI μ (ro 11 r + 4) d = nI s) (hs : s ≤ cap A r d) : s9L2 (ro 11 r + 1) (nI d, μ) = some (.inl (nI (d + 1), mUF μ (ro 11 r + 5) d (ldN (aL A r d) s (cap A r d)))) ∧ CS (mUF μ (ro 11 r + 5) d (ldN (aL A r d) s (cap A r d))) 11 (ldS A r d s) := by
  have hF := hC.1
  have hc := cap_le A r d
  have mc := m_cl (show d < 2 ^ 31 by omega)
  obtain ⟨-, -, -, -, -, -, -, -, -, -, -, -, -, wl⟩ := ht.w h1 hr hp
  obtain ⟨a1, a2, a3, a4⟩ := ld_ok (wl d hd) hc.1 hc.2 hs
  have el := RepC.ld hC.2 h1 hr hp hd
  refine ⟨?_, CS.uL hC (WN.of ht hu) hr hd⟩
  unfold s9L2
  refine iteF (by show ¬ nI 2 ≤ nI d; rw [nI_leI (by omega) (by omega)]; omega) (iteT (by rw [FabL.ls hF hr]) (bindS (j53 hC ht h1 hr hp (by omega)) (iteT (by show nI 0 < nI _; rw [nI_ltI (by omega) (by omega)]; omega) (iteT (by rw [FabL.l7 hF hr, FabL.q4 hF hr]; exact ⟨rfl, (mInb_iff (by omega)).mpr hd⟩) ?_))))
  rw [FabL.l7 hF hr, mc, hv]
  refine iteT (nn_le a1 (by omega)) ?_
  unfold s9L2_21
  refine iteT (by rw [FabL.ls hF hr]) (iteT (by rw [FabL.l8 hF hr, FabL.q5 hF hr]; exact ⟨rfl, (mInb_iff (by omega)).mpr hd⟩) ?_)
  rw [FabL.l8 hF hr, mc, el]
  refine iteT (nn_le a2 (by omega)) (iteT (nn_le a3 (by omega)) (iteT (nn_le a4 (by omega)) ?_))
  show some (Sum.inl (nI d + nI 1, _)) = _
  rw [nI_add]; rfl
theorem k218d {s : Nat} (hM : RS μ A) (ht : WFt A) (h1 : 1 ≤ r) (hr : r < 8) (hp : aR A r 0 = 1) (hd : d < 2) (hv : mI μ 214 (2 * r + d) = nI s) (hs : s ≤ cap A r d) : s218L2 200 (nI r) (nI d, μ) = some (.inl (nI (d + 1), mUF μ 202 (2 * r + d) (ldN (aL A r d) s (cap A r d)))) ∧ RS (mUF μ 202 (2 * r + d) (ldN (aL A r d) s (cap A r d))) (ldS A r d s) := by
  have hR := hM.1
  have hc := cap_le A r d
  have iy : (2 : Int32) * nI r + nI d = nI (2 * r + d) := by
    show nI 2 * nI r + nI d = _
    rw [nI_mul, nI_add]
  have mc := m_cl (show 2 * r + d < 2 ^ 31 by omega)
  obtain ⟨-, -, -, -, -, -, -, -, -, -, -, -, -, wl⟩ := ht.w h1 hr hp
  obtain ⟨a1, a2, a3, a4⟩ := ld_ok (wl d hd) hc.1 hc.2 hs
  have el := hM.2.2.2.2.2.2.2 r d hr hd
  refine ⟨?_, RS.uL hM hr hd⟩
  unfold s218L2
  refine iteF (by show ¬ nI 2 ≤ nI d; rw [nI_leI (by omega) (by omega)]; omega) (iteT (by rw [RefL.s hR]) (iteT (by rw [RefL.r15 hR, RefL.a15 hR, iy]; exact ⟨rfl, (mInb_iff (by omega)).mpr (by omega)⟩) (bindS (k156 hM ht h1 hr hp (by omega)) ?_)))
  simp only [RefL.r15 hR, RefL.r1 hR, iy, mc, hv, el]
  refine iteT (nn_le a1 (by omega)) (iteT (by rw [RefL.a1 hR]; exact ⟨rfl, (mInb_iff (by omega)).mpr (by omega)⟩) (iteT (nn_le a2 (by omega)) (iteT (nn_le a3 (by omega)) (iteT (nn_le a4 (by omega)) ?_))))
  show some (Sum.inl (nI d + nI 1, _)) = _
  rw [nI_add]; rfl
end TS
