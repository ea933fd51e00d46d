/-! the tick: one sends over a link -/
section TC
variable {μ ν : mM} {A : Ab} {r t d h i n k v w f : Nat}
abbrev SD : Type := Nat → Nat → Nat → Nat
/-- what may yet be sent over a hop in this tick -/
def avl (A : Ab) (sd : SD) (t d h : Nat) : Nat := min (wait A t d h) (aW A t d h 1 - aW A t d h 2) - sd t d h
def up3 (sd : SD) (t d h v : Nat) : SD := fun a b c => if a = t ∧ b = d ∧ c = h then v else sd a b c
/-- what was sent in this tick is small; off the ways nothing was sent -/
def SO (A : Ab) (sd : SD) : Prop := (∀ t d h, t < 10 → aT A t 0 = 1 → d < 2 → h < wN A t d → sd t d h ≤ min (wait A t d h) (aW A t d h 1 - aW A t d h 2)) ∧ ∀ t d h, t < 10 → d < 2 → h < 4 → ¬ (aT A t 0 = 1 ∧ h < wN A t d) → sd t d h = 0
/-- the class's and the reference's rows of what was sent -/
def SCl (μ : mM) (A : Ab) (sd : SD) : Prop := ∀ t d h, t < 10 → aT A t 0 = 1 → d < 2 → h < wN A t d → mI μ (wy 11 t d + 5) h = nI (sd t d h)
def SRf (μ : mM) (sd : SD) : Prop := ∀ t d h, t < 10 → d < 2 → h < 4 → mI μ 213 (8 * t + 4 * d + h) = nI (sd t d h)
def amt (A : Ab) (sd : SD) (r t d w : Nat) : Nat := min w (avl A sd t d (hx A t r d))
def sds (A : Ab) (sd : SD) (r t d w : Nat) : SD := up3 sd t d (hx A t r d) (sd t d (hx A t r d) + amt A sd r t d w)
theorem amt_le {sd : SD} : amt A sd r t d w ≤ w := by unfold amt; omega
theorem SO_s {sd : SD} (hs : SO A sd) (ht : WFt A) (hu : WFu A) (htt : t < 10) (hd : d < 2) (hus : us A t r d = true) : SO A (sds A sd r t d w) := by
  obtain ⟨u1, u2, u3, u4, u5, ho, -⟩ := us_hx ht hu htt hd hus
  have a1 := hs.1 t d _ htt ho hd u1
  refine ⟨fun a b c x1 x2 x3 x4 => ?_, fun a b c x1 x2 x3 x4 => ?_⟩
  · show (if a = t ∧ b = d ∧ c = hx A t r d then _ else _) ≤ _
    split
    · rename_i e
      obtain ⟨e1, e2, e3⟩ := e
      subst e1 e2 e3
      unfold amt avl
      omega
    · exact hs.1 a b c x1 x2 x3 x4
  · show (if a = t ∧ b = d ∧ c = hx A t r d then _ else _) = 0
    rw [if_neg]
    · exact hs.2 a b c x1 x2 x3 x4
    · rintro ⟨e1, e2, e3⟩
      subst e1 e2 e3
      exact x4 ⟨ho, u1⟩
theorem mMax_0 {a : Nat} (ha : a < 2 ^ 31) : mMax 0 (nI a) = nI a := by
  unfold mMax
  split
  · rfl
  · rename_i h
    change ¬ nI 0 < nI a at h
    rw [nI_ltI (by omega) ha] at h
    rw [show a = 0 by omega]; rfl
theorem crd (hu : WFu A) (htt : t < 10) (ho : aT A t 0 = 1) (hd : d < 2) (hh : h < 4) : aW A t d h 2 ≤ aW A t d h 1 ∧ aW A t d h 1 ≤ 6 := by
  obtain ⟨-, -, -, -, -, -, -, -, w, -⟩ := hu.o htt ho
  have := (w d hd).2 h hh
  exact ⟨this.1, this.2.1⟩
theorem j93 {sd : SD} (hC : CS μ 11 A) (ht : WFt A) (hu : WFu A) (hs : SO A sd) (hX : SCl μ A sd) (htt : t < 10) (hd : d < 2) (hus : us A t r d = true) (hw : w < 2 ^ 31) : s93 μ (wy 11 t d) (nI (hx A t r d)) (nI w) = some (nI (amt A sd r t d w), mUI μ (wy 11 t d + 5) (hx A t r d) (nI (sd t d (hx A t r d) + amt A sd r t d w))) := by
  have hF := hC.1
  obtain ⟨u1, u2, u3, u4, u5, ho, -⟩ := us_hx ht hu htt hd hus
  have a1 := hs.1 t d _ htt ho hd u1
  have w1 := wait_le (h := hx A t r d) hu htt ho hd (by omega)
  obtain ⟨c1, c2⟩ := crd (h := hx A t r d) hu htt ho hd (by omega)
  have mc := m_cl (show hx A t r d < 2 ^ 31 by omega)
  have e5 := hX t d _ htt ho hd u1
  have e3 := RepC.x3 hC.2 htt ho hd u1
  have e4 := RepC.x4 hC.2 htt ho hd u1
  have e89 := j89 hC ht hu htt ho hd (h := hx A t r d) (by omega)
  rw [decide_eq_true u1] at e89
  have val : mMax 0 (mMin (nI w) (mMin (nI (wait A t d (hx A t r d)) - nI (sd t d (hx A t r d))) (nI (aW A t d (hx A t r d) 1) - nI (aW A t d (hx A t r d) 2) - nI (sd t d (hx A t r d))))) = nI (amt A sd r t d w) := by
    rw [nI_sub (by omega), nI_sub (by omega), nI_sub (by omega), mMin_nI (by omega) (by omega), mMin_nI hw (by omega), mMax_0 (by omega)]
    congr 1
    unfold amt avl
    omega
  unfold s93
  refine iteT (by rw [FabL.ws hF htt hd]) (bindS e89 (iteT (by decide) (bindS (j91 hC htt ho hd u1 (by omega)) (iteT (by rw [FabL.w8 hF htt hd, FabL.v5 hF htt hd]; exact ⟨rfl, (mInb_iff (by omega)).mpr (by omega)⟩) (iteT (by rw [FabL.w6 hF htt hd, FabL.v3 hF htt hd]; exact ⟨rfl, (mInb_iff (by omega)).mpr (by omega)⟩) (iteT (by rw [FabL.w7 hF htt hd, FabL.v4 hF htt hd]; exact ⟨rfl, (mInb_iff (by omega)).mpr (by omega)⟩) ?_))))))
  rw [FabL.w8 hF htt hd, FabL.w6 hF htt hd, FabL.w7 hF htt hd, mc, e5, e3, e4, val, nI_add]
  rfl
theorem j93n {x : Int32} (hF : FabL (mS μ) (mP μ) 11) (htt : t < 10) (hd : d < 2) : s93 μ (wy 11 t d) (-nI 1) x = some (0, μ) := by
  unfold s93
  exact iteT (by rw [FabL.ws hF htt hd]) (bindS (j89n hF htt hd) (iteF (show ¬ ¬ nI 0 = 0 by decide) rfl))
theorem SCl_s {sd : SD} (hX : SCl μ A sd) (htt : t < 10) (hd : d < 2) : SCl (mUI μ (wy 11 t d + 5) (hx A t r d) (nI (sd t d (hx A t r d) + amt A sd r t d w))) A (sds A sd r t d w) := by
  intro a b c x1 x2 x3 x4
  rw [mI_UI]
  show _ = nI (if a = t ∧ b = d ∧ c = hx A t r d then _ else _)
  by_cases e : a = t ∧ b = d ∧ c = hx A t r d
  · rw [if_pos e, if_pos ⟨by rw [e.1, e.2.1], e.2.2⟩]
  · rw [if_neg e, if_neg]
    · exact hX a b c x1 x2 x3 x4
    · rintro ⟨z1, z2⟩
      have b2 : b = 0 ∨ b = 1 := by omega
      have d2 : d = 0 ∨ d = 1 := by omega
      unfold wy at z1
      exact e ⟨by omega, by omega, z2⟩
theorem k212 {sd : SD} {x : Nat} (hM : RS μ A) (ht : WFt A) (hu : WFu A) (hs : SO A sd) (hX : SRf μ sd) (hr : r < 8) (htt : t < 10) (hd : d < 2) (hus : us A t r d = true) (hw : w < 2 ^ 31) (hv : mI μ 214 (2 * r + d) = nI x) : s212 μ 200 (nI t) (nI r) (nI d) (nI w) = some (nI (amt A sd r t d w), mUI (mUI μ 213 (8 * t + 4 * d + hx A t r d) (nI (sd t d (hx A t r d) + amt A sd r t d w))) 214 (2 * r + d) (nI (x + amt A sd r t d w))) := by
  have hR := hM.1
  obtain ⟨u1, u2, u3, u4, u5, ho, -⟩ := us_hx ht hu htt hd hus
  have a1 := hs.1 t d _ htt ho hd u1
  have w1 := wait_le (h := hx A t r d) hu htt ho hd (by omega)
  obtain ⟨c1, c2⟩ := crd (h := hx A t r d) hu htt ho hd (by omega)
  obtain ⟨h, hh⟩ : ∃ h, h = hx A t r d := ⟨_, rfl⟩
  rw [← hh] at u1 u3 a1 w1 c1 c2
  have h4 : h < 4 := by omega
  have e163 : s163 μ (nI t) (nI d) (nI h) = some (nI (172 + 3 * (8 * t + 4 * d + h))) := by
    simp (disch := omega) only [s163, Option.bind_some, Sum.elim_inl, Sum.elim_inr, reduceIte, if_true, if_false, ite_true, ite_false, not_true_eq_false, not_false_eq_true, or_true, true_or, or_false, false_or, and_true, true_and, and_false, false_and, eq_self, ne_eq, Nat.reduceAdd, Nat.reduceMul, Nat.le_refl, ite_self, Nat.reduceEqDiff, Nat.reduceLeDiff, Nat.reduceLT, L_0, L_1, L_2, L_3, L_4, L_5, L_6, L_7, L_8, L_9, L_10, L_11, L_12, L_13, L_14, L_15, L_16, L_24, L_31, L_40, L_48, L_49, L_50, L_51, L_60, L_72, L_99, L_127, L_132, L_172, L_412, L_428, L_429, L_430, L_431, L_432, L_433, L_1000, nI_add, nI_mul, nI_leI, nI_ltI, nI_eq, m_cl, mInb_iff, nI_ng, ng_nI, ng_ng, nI_lt_ng, ng_lt_nI, nI_le_ng, ng_le_nI]
  have q1 := hM.2.2.2.2.1 t d h 1 htt hd h4 (by omega)
  have q2 := hM.2.2.2.2.1 t d h 2 htt hd h4 (by omega)
  have q3 := hX t d h htt hd h4
  have ix : (8 : Int32) * nI t + 4 * nI d + nI h = nI (8 * t + 4 * d + h) := by
    show nI 8 * nI t + nI 4 * nI d + nI h = _
    rw [nI_mul, nI_mul, nI_add, nI_add]
  have iy : (2 : Int32) * nI r + nI d = nI (2 * r + d) := by
    show nI 2 * nI r + nI d = _
    rw [nI_mul, nI_add]
  have n1 : nI (172 + 3 * (8 * t + 4 * d + h)) + 1 = nI (172 + 3 * (8 * t + 4 * d + h) + 1) := nI_add _ 1
  have n2 : nI (172 + 3 * (8 * t + 4 * d + h)) + 2 = nI (172 + 3 * (8 * t + 4 * d + h) + 2) := nI_add _ 2
  have m1 := m_cl (show 172 + 3 * (8 * t + 4 * d + h) + 1 < 2 ^ 31 by omega)
  have m2 := m_cl (show 172 + 3 * (8 * t + 4 * d + h) + 2 < 2 ^ 31 by omega)
  have m3 := m_cl (show 8 * t + 4 * d + h < 2 ^ 31 by omega)
  have m4 := m_cl (show 2 * r + d < 2 ^ 31 by omega)
  have e209 : s209 μ 200 (nI t) (nI d) (nI h) = some (nI (avl A sd t d h)) := by
    unfold s209
    refine bindS e163 (iteT (by rw [RefL.s hR]) (bindS (k208 hM htt hd (h := h) (by omega)) (iteT (by rw [RefL.r0 hR, RefL.a0 hR, n1]; exact ⟨rfl, (mInb_iff (by omega)).mpr (by omega)⟩) (iteT (by rw [RefL.r0 hR, RefL.a0 hR, n2]; exact ⟨rfl, (mInb_iff (by omega)).mpr (by omega)⟩) (bindS (v := nI (min (wait A t d h) (aW A t d h 1 - aW A t d h 2))) ?_ (iteT (by rw [RefL.r14 hR, RefL.a14 hR, ix]; exact ⟨rfl, (mInb_iff (by omega)).mpr (by omega)⟩) ?_))))))
    · rw [RefL.r0 hR, n1, n2, m1, m2, q1, q2, nI_sub (by omega)]
      exact k145 (by omega) (by omega)
    · rw [RefL.r14 hR, ix, m3, q3, nI_sub (by omega)]; rfl
  have am : min (avl A sd t d h) w = amt A sd r t d w := by unfold amt; rw [← hh]; exact Nat.min_comm _ _
  have avb : avl A sd t d h ≤ 99 := by unfold avl; omega
  rw [← hh]
  unfold s212
  refine iteT (by rw [RefL.s hR]) (bindS (k159 hM htt (k := 2) (by omega)) (bindS (v := nI h) (by rw [hh]; exact k164 hM ht hu htt hd hus) (bindS e209 (bindS (v := nI (amt A sd r t d w)) (by rw [← am]; exact k145 (by omega) hw) (iteT (by rw [RefL.r14 hR, RefL.a14 hR, ix]; exact ⟨rfl, (mInb_iff (by omega)).mpr (by omega)⟩) (bindS (v := mUI μ 213 (8 * t + 4 * d + h) (nI (sd t d h + amt A sd r t d w))) (by rw [RefL.r14 hR, ix, m3, q3, nI_add]) ?_))))))
  have p15 : mP (mUI μ 213 (8 * t + 4 * d + h) (nI (sd t d h + amt A sd r t d w))) 200 15 = 214 := RefL.r15 hR
  have s15 : mS (mUI μ 213 (8 * t + 4 * d + h) (nI (sd t d h + amt A sd r t d w))) 214 = (10, 16) := RefL.a15 hR
  have v15 : mI (mUI μ 213 (8 * t + 4 * d + h) (nI (sd t d h + amt A sd r t d w))) 214 (2 * r + d) = nI x := by rw [mI_UI, if_neg (by omega)]; exact hv
  refine iteT (by rw [p15, s15, iy]; exact ⟨rfl, (mInb_iff (by omega)).mpr (by omega)⟩) (bindS (v := _) (by rw [p15, iy, m4, v15, nI_add]) rfl)
theorem SRf_s {sd : SD} {x : Int32} (hX : SRf μ sd) (htt : t < 10) (hd : d < 2) (hh : hx A t r d < 4) : SRf (mUI (mUI μ 213 (8 * t + 4 * d + hx A t r d) (nI (sd t d (hx A t r d) + amt A sd r t d w))) 214 (2 * r + d) x) (sds A sd r t d w) := by
  intro a b c x1 x2 x3
  rw [mI_UI, if_neg (by omega), mI_UI]
  show _ = nI (if a = t ∧ b = d ∧ c = hx A t r d then _ else _)
  by_cases e : a = t ∧ b = d ∧ c = hx A t r d
  · rw [if_pos e, if_pos ⟨rfl, by rw [e.1, e.2.1, e.2.2]⟩]
  · rw [if_neg e, if_neg (by omega)]; exact hX a b c x1 x2 x3
end TC
