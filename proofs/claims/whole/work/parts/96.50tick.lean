/-! the tick: the reference moves all cells -/
section TP
variable {μ ν ν1 : mM} {A B : Ab} {r t d n m k a b v c e h : Nat} {sd : SD} {w x y : Nat → Nat → Nat} {s : Nat → Nat}
theorem stW_comm : stW (stW B t 0 x) t 1 y = stW (stW B t 1 y) t 0 x := by
  show ((B.1, B.2.1, (fun a b c e => if a = t ∧ b = 1 then y c e else if a = t ∧ b = 0 then x c e else B.2.2.1 a b c e), B.2.2.2) : Ab) = (B.1, B.2.1, (fun a b c e => if a = t ∧ b = 0 then x c e else if a = t ∧ b = 1 then y c e else B.2.2.1 a b c e), B.2.2.2)
  congr 3
  funext a b c e
  by_cases z : a = t ∧ b = 1
  · rw [if_pos z, if_neg (by omega), if_pos z]
  · rw [if_neg z, if_neg z]
/-- delivered, in the reference's order -/
def dl2 (w : Nat → Nat → Nat) (n : Nat) : Nat → Nat → Nat := up2 (up2 w 4 1 (w 4 1 + w (n - 1) 2)) (n - 1) 2 0
theorem dl2_e (hn : n - 1 < 4) : dl2 w n = dlw w n := by
  funext a b
  unfold dl2 dlw
  rw [up2_at, up2_at, up2_at, up2_at]
  by_cases z : a = n - 1 ∧ b = 2
  · rw [if_pos z, if_neg (by omega), if_pos z]
  · rw [if_neg z, if_neg z]
theorem k216d (hM : RS ν (stW A t d w)) (ht : WFt A) (o2 : 1 ≤ aT A t 2) (o3 : aT A t 2 < 8) (o4 : aR A (aT A t 2) 0 = 1) (htt : t < 10) (ho : aT A t 0 = 1) (hd : d < 2) : ∃ ν', s216L4L76 200 (nI t) (nI c, nI d, ν) = some (.inl (nI (c + w (dep A (aT A t 2) - 1) 2), nI (d + 1), ν')) ∧ RS ν' (stW A t d (dl2 w (dep A (aT A t 2)))) ∧ Fr 201 202 ν ν' := by
  have hR := hM.1
  have ht' : WFt (stW A t d w) := ht.cg rfl rfl
  have d4 := ht.dep4 o3 o4
  have d0 := ht.dep0 o3 o4
  obtain ⟨D, hD⟩ : ∃ D, D = dep A (aT A t 2) := ⟨_, rfl⟩
  have D1 : 1 ≤ D := by
    by_cases z : dep A (aT A t 2) = 0
    · have := d0.mp z; omega
    · omega
  have eD : dep (stW A t d w) (aT A t 2) = D := by rw [hD]; exact dep_cg (A := A) (A' := stW A t d w) (fun _ => rfl)
  have y0 : s159 ν 200 (nI t) (nI 0) = some (nI (aT A t 0)) := k159 (A := stW A t d w) hM htt (k := 0) (by omega)
  have y2 : s159 ν 200 (nI t) (nI 2) = some (nI (aT A t 2)) := k159 (A := stW A t d w) hM htt (k := 2) (by omega)
  have k2 := k152 hM ht' o3 o4
  rw [eD] at k2
  have em : nI D - 1 = nI (D - 1) := nI_sub (b := 1) D1
  have e163 : s163 ν (nI t) (nI d) (nI D - 1) = some (nI (172 + 3 * (8 * t + 4 * d + (D - 1)))) := by
    rw [em]
    simp (disch := omega) only [s163, Option.bind_some, Sum.elim_inl, Sum.elim_inr, reduceIte, if_true, if_false, ite_true, ite_false, not_true_eq_false, not_false_eq_true, or_true, true_or, or_false, false_or, and_true, true_and, and_false, false_and, eq_self, ne_eq, Nat.reduceAdd, Nat.reduceMul, Nat.le_refl, ite_self, Nat.reduceEqDiff, Nat.reduceLeDiff, Nat.reduceLT, L_0, L_1, L_2, L_3, L_4, L_5, L_6, L_7, L_8, L_9, L_10, L_11, L_12, L_13, L_14, L_15, L_16, L_24, L_31, L_40, L_48, L_49, L_50, L_51, L_60, L_72, L_99, L_127, L_132, L_172, L_412, L_428, L_429, L_430, L_431, L_432, L_433, L_1000, nI_add, nI_mul, nI_leI, nI_ltI, nI_eq, m_cl, mInb_iff, nI_ng, ng_nI, ng_ng, nI_lt_ng, ng_lt_nI, nI_le_ng, ng_le_nI]
  have e132 : (132 : Int32) + 4 * nI t + 2 * nI d + 1 = nI (132 + 4 * t + 2 * d + 1) := by
    show nI 132 + nI 4 * nI t + nI 2 * nI d + nI 1 = _
    rw [nI_mul, nI_mul, nI_add, nI_add, nI_add]
  have e2 : nI (172 + 3 * (8 * t + 4 * d + (D - 1))) + 2 = nI (172 + 3 * (8 * t + 4 * d + (D - 1)) + 2) := nI_add _ 2
  have m1 := m_cl (show 132 + 4 * t + 2 * d + 1 < 2 ^ 31 by omega)
  have m2 := m_cl (show 172 + 3 * (8 * t + 4 * d + (D - 1)) + 2 < 2 ^ 31 by omega)
  have q1 := hM.2.2.2.1 t d 1 htt hd (by omega)
  rw [aW_st, if_pos ⟨rfl, rfl⟩] at q1
  have q2 := hM.2.2.2.2.1 t d (D - 1) 2 htt hd (by omega) (by omega)
  rw [aW_st, if_pos ⟨rfl, rfl⟩] at q2
  have cA := RS.uQ (v := w 4 1 + w (D - 1) 2) hM htt hd (k := 1) (by omega)
  rw [setW_st] at cA
  obtain ⟨ν2, hν2⟩ : ∃ ν2, ν2 = mUI ν 201 (132 + 4 * t + 2 * d + 1) (nI (w 4 1 + w (D - 1) 2)) := ⟨_, rfl⟩
  rw [← hν2] at cA
  have q3 := cA.2.2.2.2.1 t d (D - 1) 2 htt hd (by omega) (by omega)
  rw [aW_st, if_pos ⟨rfl, rfl⟩, up2_at, if_neg (by omega)] at q3
  have cB := RS.uW (v := 0) cA htt hd (h := D - 1) (by omega) (k := 2) (by omega)
  rw [setW_st] at cB
  rw [← hD]
  refine ⟨mUI ν2 201 (172 + 3 * (8 * t + 4 * d + (D - 1)) + 2) (nI 0), ?_, cB, (show Fr 201 202 ν ν2 by rw [hν2]; exact Fr_UI ν (by omega) (by omega) _ _).trans (Fr_UI ν2 (by omega) (by omega) _ _)⟩
  unfold s216L4L76
  refine iteF (by show ¬ nI 2 ≤ nI d; rw [nI_leI (by omega) (by omega)]; omega) (iteT (by rw [RefL.s hR]) (bindS y0 (iteF (by rw [ho]; decide) (bindS y2 (bindS k2 (bindS e163 (iteT (by rw [RefL.r0 hR, RefL.a0 hR, e132]; exact ⟨rfl, (mInb_iff (by omega)).mpr (by omega)⟩) (iteT (by rw [RefL.r0 hR, RefL.a0 hR, e2]; exact ⟨rfl, (mInb_iff (by omega)).mpr (by omega)⟩) (bindS (v := ν2) (by rw [RefL.r0 hR, e132, e2, m1, m2, q1, q2, nI_add, hν2]) (iteT (by rw [RefL.r0 cA.1, RefL.a0 cA.1, e2]; exact ⟨rfl, (mInb_iff (by omega)).mpr (by omega)⟩) (bindS (v := mUI ν2 201 (172 + 3 * (8 * t + 4 * d + (D - 1)) + 2) (nI 0)) (by rw [RefL.r0 cA.1, e2, m2]; rfl) ?_)))))))))))
  rw [RefL.r0 cA.1, e2, m2, q3]
  show some (Sum.inl (nI c + nI _, nI d + nI 1, _)) = _
  rw [nI_add, nI_add]
/-- eight hops -/
theorem k216h {z : Int32} (hM : RS ν B) (htt : t < 10) (hX : SRf ν sd) (hs : ∀ d h, d < 2 → h < 4 → sd t d h ≤ if h = 0 then aW B t d 4 0 else aW B t d (h - 1) 2) : ∃ ν', mLoop (s216L4L9 200 z (nI t)) 1000 (0, ν) = some (.inl ν') ∧ RS ν' (stW (stW B t 0 (hw (aW B t 0) (sd t 0) 4)) t 1 (hw (aW B t 1) (sd t 1) 4)) ∧ Fr 201 202 ν ν' := by
  have aw1 : ∀ x, aW (stW B t 0 x) t 1 = aW B t 1 := fun x => by
    funext c e
    rw [aW_st, if_neg (by omega)]
  obtain ⟨ν', e, c1, f1⟩ := mLoop_mem (b := s216L4L9 200 z (nI t)) (μ := ν) (fun i ν' => RS ν' (if i < 4 then stW B t 0 (hw (aW B t 0) (sd t 0) i) else stW (stW B t 0 (hw (aW B t 0) (sd t 0) 4)) t 1 (hw (aW B t 1) (sd t 1) (i - 4))) ∧ Fr 201 202 ν ν') 0 8 (fun i ν' hi hJ => by
    obtain ⟨c1, f1⟩ := hJ
    have r13 : mI ν' 213 = mI ν 213 := (f1.2 213 (by omega)).1
    rw [Nat.zero_add]
    by_cases q : i < 4
    · rw [if_pos q] at c1
      obtain ⟨ν2, b1, b2, b3⟩ := k216s (x := z) (d := 0) (h := i) c1 htt (by omega) q (by rw [r13]; exact hX t 0 i htt (by omega) q) (hs 0 i (by omega) q)
      simp only [Nat.mul_zero, Nat.zero_add] at b1
      refine ⟨ν2, b1, ?_, f1.trans b3⟩
      by_cases q3 : i = 3
      · subst q3
        rw [if_neg (by omega)]
        show RS ν2 (stW (stW B t 0 (hw (aW B t 0) (sd t 0) 4)) t 1 (aW B t 1))
        rw [← aw1 (hw (aW B t 0) (sd t 0) 4), stW_same]; exact b2
      · rw [if_pos (by omega)]; exact b2
    · rw [if_neg q] at c1
      obtain ⟨ν2, b1, b2, b3⟩ := k216s (x := z) (d := 1) (h := i - 4) c1 htt (by omega) (by omega) (by rw [r13]; exact hX t 1 (i - 4) htt (by omega) (by omega)) (hs 1 (i - 4) (by omega) (by omega))
      rw [show 4 * 1 + (i - 4) = i by omega] at b1
      refine ⟨ν2, b1, ?_, f1.trans b3⟩
      rw [if_neg (by omega), show i + 1 - 4 = i - 4 + 1 by omega]; exact b2) (fun ν' hJ => by
    unfold s216L4L9
    exact iteT (show nI 8 ≤ nI (0 + 8) by decide) rfl) ⟨by rw [if_pos (by omega)]; show RS ν (stW B t 0 (aW B t 0)); rw [stW_same]; exact hM, Fr.refl _ _ _⟩ (n := 1000) (by omega)
  rw [if_neg (by omega)] at c1
  exact ⟨ν', e, c1, f1⟩
end TP
