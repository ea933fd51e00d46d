/-! the tick: the reference moves a tunnel's cells -/
section TO
variable {μ ν ν1 : mM} {A : Ab} {r t d n m k a b v c e h : Nat} {sd : SD} {w : Nat → Nat → Nat} {s : Nat → Nat}
theorem ix8 : ∀ d : Fin 2, ∀ h : Fin 4, nI (4 * d.val + h.val) - nI (4 * d.val + h.val) / 4 * 4 = nI h.val ∧ (h.val = 0 → nI (4 * d.val + h.val) / 2 = nI (2 * d.val)) := by decide
theorem k216s {x : Int32} (hM : RS ν (stW A t d (hw w s h))) (htt : t < 10) (hd : d < 2) (hh : h < 4) (hv : mI ν 213 (8 * t + 4 * d + h) = nI (s h)) (hs : s h ≤ if h = 0 then w 4 0 else w (h - 1) 2) : ∃ ν', s216L4L9 200 x (nI t) (nI (4 * d + h), ν) = some (.inl (nI (4 * d + h + 1), ν')) ∧ RS ν' (stW A t d (hw w s (h + 1))) ∧ Fr 201 202 ν ν' := by
  have hR := hM.1
  obtain ⟨s1, s2, s3⟩ := hw_spec (w := w) (s := s) h (by omega)
  obtain ⟨i1, i2⟩ := ix8 ⟨d, hd⟩ ⟨h, hh⟩
  simp only at i1 i2
  have e8 : (8 : Int32) * nI t + nI (4 * d + h) = nI (8 * t + 4 * d + h) := by
    show nI 8 * nI t + nI (4 * d + h) = _
    rw [nI_mul, nI_add]; congr 1; omega
  have m8 := m_cl (show 8 * t + 4 * d + h < 2 ^ 31 by omega)
  have e172 : (172 : Int32) + 3 * nI (8 * t + 4 * d + h) = nI (172 + 3 * (8 * t + 4 * d + h)) := by
    show nI 172 + nI 3 * nI _ = _
    rw [nI_mul, nI_add]
  have e2 : nI (172 + 3 * (8 * t + 4 * d + h)) + 2 = nI (172 + 3 * (8 * t + 4 * d + h) + 2) := nI_add _ 2
  have m2 := m_cl (show 172 + 3 * (8 * t + 4 * d + h) + 2 < 2 ^ 31 by omega)
  have nx : nI (4 * d + h) + 1 = nI (4 * d + h + 1) := nI_add _ 1
  have pre : ∀ q, (if ¬ nI h = 0 then (if (mS ν 201).1 = 10 ∧ mInb (nI (172 + 3 * (8 * t + 4 * d + h)) - 1) (mS ν 201).2 then (some (mUI ν 201 (Int32.toNatClampNeg (nI (172 + 3 * (8 * t + 4 * d + h)) - 1)) ((mI ν 201 (Int32.toNatClampNeg (nI (172 + 3 * (8 * t + 4 * d + h)) - 1))) - nI (s h)))).bind fun μ4 => s216L4L9_62 200 x (nI t) μ4 (nI (4 * d + h)) (nI (s h)) (nI (172 + 3 * (8 * t + 4 * d + h))) else none) else (if (mS ν 201).1 = 10 ∧ mInb ((132 + (4 * nI t)) + (nI (4 * d + h) / 2)) (mS ν 201).2 then (some (mUI ν 201 (Int32.toNatClampNeg ((132 + (4 * nI t)) + (nI (4 * d + h) / 2))) ((mI ν 201 (Int32.toNatClampNeg ((132 + (4 * nI t)) + (nI (4 * d + h) / 2)))) - nI (s h)))).bind fun μ9 => s216L4L9_62 200 x (nI t) μ9 (nI (4 * d + h)) (nI (s h)) (nI (172 + 3 * (8 * t + 4 * d + h))) else none)) = q → s216L4L9 200 x (nI t) (nI (4 * d + h), ν) = q := fun q hq => by
    unfold s216L4L9
    refine iteF (by show ¬ nI 8 ≤ nI _; rw [nI_leI (by omega) (by omega)]; omega) (iteT (by rw [RefL.s hR]) (iteT (by rw [RefL.r14 hR, RefL.a14 hR, e8]; exact ⟨rfl, (mInb_iff (by omega)).mpr (by omega)⟩) ?_))
    simp only [e8, m8, RefL.r14 hR, RefL.r0 hR, hv, e172, i1]
    exact hq
  have half : ∀ ν2 w2, RS ν2 (stW A t d w2) → Fr 201 202 ν ν2 → w2 h 2 = w h 2 → up2 w2 h 2 (w h 2 + s h) = hw w s (h + 1) → ∃ ν', s216L4L9_62 200 x (nI t) ν2 (nI (4 * d + h)) (nI (s h)) (nI (172 + 3 * (8 * t + 4 * d + h))) = some (.inl (nI (4 * d + h + 1), ν')) ∧ RS ν' (stW A t d (hw w s (h + 1))) ∧ Fr 201 202 ν ν' := fun ν2 w2 c2 f2 a2 u2 => by
    have q2 := c2.2.2.2.2.1 t d h 2 htt hd hh (by omega)
    rw [aW_st, if_pos ⟨rfl, rfl⟩, a2] at q2
    have c3 := RS.uW (v := w h 2 + s h) c2 htt hd hh (k := 2) (by omega)
    rw [setW_st, u2] at c3
    refine ⟨_, ?_, c3, f2.trans (Fr_UI ν2 (by omega) (by omega) _ _)⟩
    unfold s216L4L9_62
    refine iteT (by rw [RefL.s c2.1]) (iteT (by rw [RefL.r0 c2.1, RefL.a0 c2.1, e2]; exact ⟨rfl, (mInb_iff (by omega)).mpr (by omega)⟩) (bindS (v := mUI ν2 201 (172 + 3 * (8 * t + 4 * d + h) + 2) (nI (w h 2 + s h))) (by rw [RefL.r0 c2.1, e2, m2, q2, nI_add]) ?_))
    show some (Sum.inl (nI (4 * d + h) + 1, _)) = _
    rw [nx]
  by_cases h0 : h = 0
  · subst h0
    rw [if_pos rfl] at hs
    have q0 := hM.2.2.2.1 t d 0 htt hd (by omega)
    rw [aW_st, if_pos ⟨rfl, rfl⟩] at q0
    have eq : (132 : Int32) + 4 * nI t + nI (4 * d + 0) / 2 = nI (132 + 4 * t + 2 * d + 0) := by
      rw [i2 rfl]
      show nI 132 + nI 4 * nI t + nI (2 * d) = _
      rw [nI_mul, nI_add, nI_add]; rfl
    have mq := m_cl (show 132 + 4 * t + 2 * d + 0 < 2 ^ 31 by omega)
    have cA := RS.uQ (v := w 4 0 - s 0) hM htt hd (k := 0) (by omega)
    rw [setW_st] at cA
    obtain ⟨ν', b1, b2⟩ := half _ _ cA (Fr_UI ν (by omega) (by omega) _ _) (by rw [up2_at, if_neg (by omega)]; rfl) rfl
    refine ⟨ν', pre _ ?_, b2⟩
    exact iteF (show ¬ ¬ nI 0 = 0 by decide) (iteT (by rw [RefL.a0 hR, eq]; exact ⟨rfl, (mInb_iff (by omega)).mpr (by omega)⟩) (bindS (v := mUI ν 201 (132 + 4 * t + 2 * d + 0) (nI (w 4 0 - s 0))) (by rw [eq, mq, q0]; show some (mUI ν 201 _ (nI (w 4 0) - nI (s 0))) = _; rw [nI_sub hs]) b1))
  · rw [if_neg h0] at hs
    have q0 := hM.2.2.2.2.1 t d (h - 1) 2 htt hd (by omega) (by omega)
    have wi : hw w s h (h - 1) 2 = w (h - 1) 2 + s (h - 1) := by rw [s1 (h - 1) (by omega), if_pos (by omega), if_neg (by omega)]
    rw [aW_st, if_pos ⟨rfl, rfl⟩, wi] at q0
    have eq : nI (172 + 3 * (8 * t + 4 * d + h)) - 1 = nI (172 + 3 * (8 * t + 4 * d + (h - 1)) + 2) := by
      rw [show nI (172 + 3 * (8 * t + 4 * d + h)) - 1 = nI (172 + 3 * (8 * t + 4 * d + h) - 1) from nI_sub (b := 1) (by omega)]; congr 1; omega
    have mq := m_cl (show 172 + 3 * (8 * t + 4 * d + (h - 1)) + 2 < 2 ^ 31 by omega)
    have cA := RS.uW (h := h - 1) (v := w (h - 1) 2 + s (h - 1) - s h) hM htt hd (by omega) (k := 2) (by omega)
    rw [setW_st] at cA
    obtain ⟨ν', b1, b2⟩ := half _ _ cA (Fr_UI ν (by omega) (by omega) _ _) (by rw [up2_at, if_neg (by omega), s1 h hh, if_neg (by omega)]) (by
      have s1i := s1 h hh
      rw [if_neg (by omega)] at s1i
      rw [hw, if_neg h0, wi, s1i])
    refine ⟨ν', pre _ ?_, b2⟩
    exact iteT (by show ¬ nI h = nI 0; rw [nI_eq (by omega) (by omega)]; exact h0) (iteT (by rw [RefL.a0 hR, eq]; exact ⟨rfl, (mInb_iff (by omega)).mpr (by omega)⟩) (bindS (v := mUI ν 201 (172 + 3 * (8 * t + 4 * d + (h - 1)) + 2) (nI (w (h - 1) 2 + s (h - 1) - s h))) (by rw [eq, mq, q0, nI_sub (by omega)]) b1))
theorem hw_to {n : Nat} (h : ∀ c, n ≤ c → c < 4 → s c = 0) : ∀ j, n + j ≤ 4 → hw w s (n + j) = hw w s n
  | 0, _ => rfl
  | j + 1, hj => by
    rw [show n + (j + 1) = n + j + 1 by omega, hw_stop (h (n + j) (by omega) (by omega)), hw_to h j (by omega)]
end TO
