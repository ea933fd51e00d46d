/-! the tick: the class moves all cells -/
section TN
variable {μ ν ν1 : mM} {A : Ab} {r t d n m k a b v c e h : Nat} {sd : SD}
theorem wy_ne {t d a b : Nat} (hd : d < 2) (hb : b < 2) (h : ¬ (a = t ∧ b = d)) : wy 11 a b + 5 < wy 11 t d ∨ wy 11 t d + 6 ≤ wy 11 a b + 5 := by
  have b2 : b = 0 ∨ b = 1 := by omega
  have d2 : d = 0 ∨ d = 1 := by omega
  unfold wy
  omega
theorem BZ_way {t d : Nat} (htt : t < 10) (hd : d < 2) (hf : Fr (wy 11 t d) (wy 11 t d + 6) μ ν) (h0 : mI ν (wy 11 t d) 0 = mI μ (wy 11 t d) 0) : FrC μ ν := by
  refine ⟨hf.mono (by unfold wy; omega) (by unfold wy; omega), fun hb => hb.cg (fun r hr => by rw [(hf.2 _ (by unfold ro wy; omega)).1]) (fun a b ha hb' => ?_)⟩
  by_cases z : a = t ∧ b = d
  · rw [z.1, z.2, h0]
  · have b2 : b = 0 ∨ b = 1 := by omega
    have d2 : d = 0 ∨ d = 1 := by omega
    rw [(hf.2 (wy 11 a b) (by unfold wy; omega)).1]
theorem j8 (hC : CS μ 11 A) (ht : WFt A) (hu : WFu A) (hs : SO A sd) (hX : SCl μ A sd) {q : Nat} : ∃ ν, s8 μ q 11 = some (nI (tot A sd 10), ν) ∧ CS ν 11 (mvN A sd 10) ∧ SZ (mI ν) 11 (mvN A sd 10) ∧ FrC μ ν ∧ ∀ r, r < 8 → mI ν (ro 11 r + 4) = mI μ (ro 11 r + 4) := by
  obtain ⟨o, e, ν, rfl, c1, c2, c3, c4⟩ := mLoop_inv0 (b := s8L4 11) (fun i st => ∃ ν, st = (nI (tot A sd i), nI i, ν) ∧ CS ν 11 (mvN A sd i) ∧ (∀ t d h, t < 10 → aT A t 0 = 1 → d < 2 → h < wN A t d → mI ν (wy 11 t d + 5) h = if t < i then nI 0 else nI (sd t d h)) ∧ FrC μ ν ∧ ∀ r, r < 8 → mI ν (ro 11 r + 4) = mI μ (ro 11 r + 4)) 10 (fun o => ∃ ν, o = .inl (nI (tot A sd 10), ν) ∧ CS ν 11 (mvN A sd 10) ∧ (∀ t d h, t < 10 → aT A t 0 = 1 → d < 2 → h < wN A t d → mI ν (wy 11 t d + 5) h = nI 0) ∧ FrC μ ν ∧ ∀ r, r < 8 → mI ν (ro 11 r + 4) = mI μ (ro 11 r + 4)) (fun i st hi hJ => by
    obtain ⟨ν, rfl, c1, c2, c3, c4⟩ := hJ
    have hF := c1.1
    obtain ⟨w1, w2, w3⟩ := mvN_wf ht hu hs i (by omega)
    obtain ⟨y1, y2, y3⟩ := mvN_1 (A := A) (sd := sd) i
    have mc := m_cl (show i < 2 ^ 31 by omega)
    have tp : mP ν (mP ν 11 1) (Int32.toNatClampNeg (nI i)) = tu 11 i := by rw [FabL.p1 hF, mc, FabL.tp hF hi]
    have eT : ∀ a k, aT (mvN A sd i) a k = aT A a k := fun a k => by show (mvN A sd i).2.1 a k = _; rw [y2]
    have eR : ∀ q, aR (mvN A sd i) q 3 = aR A q 3 := fun q => by show (mvN A sd i).1 q 3 = _; rw [y1]
    have eN : ∀ a b, wN (mvN A sd i) a b = wN A a b := fun a b => wN_cg (A := A) (A' := mvN A sd i) eR (eT a 1) (eT a 2)
    have l1 := hu.le1 hi
    refine Or.inl ?_
    by_cases ho : aT A i 0 = 1
    · have ho' : aT (mvN A sd i) i 0 = 1 := by rw [eT]; exact ho
      obtain ⟨ν1, a1, a2, a3, a4, a5⟩ := j94 (d := 0) c1 w1 w2 (fun h hh => (w3 i 0 (Nat.le_refl _) hi (by omega) ho h hh).1) hi ho' (by omega) (fun h hh => by rw [c2 i 0 h hi ho (by omega) (by rw [← eN]; exact hh), if_neg (by omega)])
      have t1 : WFt (stW (mvN A sd i) i 0 (wv (mvN A sd i) sd i 0)) := w1.cg rfl rfl
      have u1 := wv_wf (sd := sd) w1 w2 hi (d := 0) (by omega) (fun _ => w3 i 0 (Nat.le_refl _) hi (by omega) ho)
      have F1 := BZ_way hi (by omega) a4 a5
      have eN1 : ∀ b, wN (stW (mvN A sd i) i 0 (wv (mvN A sd i) sd i 0)) i b = wN (mvN A sd i) i b := fun b => wN_cg (A := mvN A sd i) (A' := stW (mvN A sd i) i 0 (wv (mvN A sd i) sd i 0)) (fun _ => rfl) rfl rfl
      obtain ⟨ν2, b1, b2, b3, b4, b5⟩ := j94 (d := 1) a2 t1 u1 (fun h hh => (SOt_st (sd := sd) (by omega) (w3 i 1 (Nat.le_refl _) hi (by omega) ho) h hh).1) hi ho' (by omega) (fun h hh => by
        rw [(a4.2 _ (wy_ne (by omega) (by omega) (by omega))).1, c2 i 1 h hi ho (by omega) (by rw [← eN, ← eN1]; exact hh), if_neg (by omega)])
      obtain ⟨z1, z2⟩ := wv_st (A := mvN A sd i) (sd := sd) (t := i) (d := 0) (a := i) (b := 1) (x := wv (mvN A sd i) sd i 0) (by omega)
      rw [z1] at b2
      rw [z2] at b1
      have F2 := BZ_way hi (by omega) b4 b5
      have hF1 := a2.1
      refine ⟨(nI (tot A sd (i + 1)), nI (i + 1), ν2), ?_, ν2, rfl, b2, fun t d h x1 x2 x3 x4 => ?_, ⟨(c3.1.trans F1.1).trans F2.1, fun hb => F2.2 (F1.2 (c3.2 hb))⟩, fun r hr => by rw [(b4.2 _ (by unfold ro wy; omega)).1, (a4.2 _ (by unfold ro wy; omega)).1]; exact c4 r hr⟩
      · have tp1 : mP ν1 (mP ν1 11 1) (Int32.toNatClampNeg (nI i)) = tu 11 i := by rw [FabL.p1 hF1, mc, FabL.tp hF1 hi]
        unfold s8L4
        refine iteF (by show ¬ nI 10 ≤ nI i; rw [nI_leI (by omega) (by omega)]; omega) (iteT (by rw [FabL.s0 hF]) (iteT (by rw [FabL.p1 hF, FabL.s2 hF]; exact ⟨rfl, (mInb_iff (by omega)).mpr hi⟩) (iteT (by rw [tp, FabL.ts hF hi]) (iteF (by rw [tp, RepC.t0 c1.2 hi, ho']; decide) (iteT (by rw [tp, FabL.td hF hi, FabL.ws hF hi (by omega)]) (bindS (v := (nI (dv (mvN A sd i) sd i 0), ν1)) (by rw [tp, FabL.td hF hi]; exact a1) (iteT (by rw [FabL.s0 hF1]) (iteT (by show (mS ν1 (mP ν1 11 1)).1 = 20 + 6 ∧ mInb (nI i) (mS ν1 (mP ν1 11 1)).2; rw [FabL.p1 hF1, FabL.s2 hF1]; exact ⟨rfl, (mInb_iff (by omega)).mpr hi⟩) (iteT (by rw [tp1, FabL.ts hF1 hi]) (iteT (by rw [tp1, FabL.tw hF1 hi, FabL.ws hF1 hi (by omega)]) (bindS (v := (nI (dv (mvN A sd i) sd i 1), ν2)) (by rw [tp1, FabL.tw hF1 hi]; exact b1) ?_)))))))))))
        show some (Sum.inl (nI _ + nI _ + nI _, nI i + nI 1, _)) = _
        rw [nI_add, nI_add, nI_add]; rfl
      · by_cases z : t = i
        · subst z
          rw [if_pos (by omega)]
          have d2 : d = 0 ∨ d = 1 := by omega
          rcases d2 with e' | e' <;> subst e'
          · rw [(b4.2 _ (wy_ne (by omega) (by omega) (by omega))).1]
            exact a3 h (by rw [eN]; exact x4)
          · exact b3 h (by rw [eN1, eN]; exact x4)
        · rw [(b4.2 _ (wy_ne (by omega) x3 (fun y => z y.1))).1, (a4.2 _ (wy_ne (by omega) x3 (fun y => z y.1))).1, c2 t d h x1 x2 x3 x4]
          by_cases y : t < i
          · rw [if_pos y, if_pos (by omega)]
          · rw [if_neg y, if_neg (by omega)]
    · have o0 : aT A i 0 = 0 := by omega
      have o0' : aT (mvN A sd i) i 0 = 0 := by rw [eT]; exact o0
      have dz : ∀ d, dv (mvN A sd i) sd i d = 0 ∧ wv (mvN A sd i) sd i d = aW (mvN A sd i) i d := fun d => by
        unfold dv wv
        rw [if_neg (fun y => by omega), if_neg (fun y => by omega)]
        exact ⟨rfl, rfl⟩
      have same : mvN A sd (i + 1) = mvN A sd i := by
        show stW (stW (mvN A sd i) i 0 (wv (mvN A sd i) sd i 0)) i 1 (wv (mvN A sd i) sd i 1) = _
        rw [(dz 0).2, (dz 1).2, stW_same, stW_same]
      have ts : tot A sd (i + 1) = tot A sd i := by
        show tot A sd i + dv (mvN A sd i) sd i 0 + dv (mvN A sd i) sd i 1 = _
        rw [(dz 0).1, (dz 1).1]; rfl
      refine ⟨(nI (tot A sd i), nI (i + 1), ν), ?_, ν, by rw [ts], by rw [same]; exact c1, fun t d h x1 x2 x3 x4 => ?_, c3, c4⟩
      · unfold s8L4
        refine iteF (by show ¬ nI 10 ≤ nI i; rw [nI_leI (by omega) (by omega)]; omega) (iteT (by rw [FabL.s0 hF]) (iteT (by rw [FabL.p1 hF, FabL.s2 hF]; exact ⟨rfl, (mInb_iff (by omega)).mpr hi⟩) (iteT (by rw [tp, FabL.ts hF hi]) (iteT (by rw [tp, RepC.t0 c1.2 hi, o0']; rfl) ?_))))
        show some (Sum.inl (_, nI i + nI 1, _)) = _
        rw [nI_add]
      · have z : ¬ t = i := fun z => by rw [z] at x2; omega
        rw [c2 t d h x1 x2 x3 x4]
        by_cases y : t < i
        · rw [if_pos y, if_pos (by omega)]
        · rw [if_neg y, if_neg (by omega)]) (fun st hJ => by
    obtain ⟨ν, rfl, c1, c2, c3, c4⟩ := hJ
    refine ⟨_, ?_, ν, rfl, c1, fun t d h x1 x2 x3 x4 => by rw [c2 t d h x1 x2 x3 x4, if_pos x1], c3, c4⟩
    unfold s8L4
    exact iteT (show nI 10 ≤ nI 10 by decide) rfl) (s := (0, 0, μ)) ⟨μ, rfl, hC, fun t d h x1 x2 x3 x4 => by rw [if_neg (by omega)]; exact hX t d h x1 x2 x3 x4, FrC.refl _, fun _ _ => rfl⟩ (n := 1000) (by omega)
  refine ⟨ν, ?_, c1, fun t d h x1 x2 x3 x4 => ?_, c3, c4⟩
  · unfold s8
    exact bindS e rfl
  · obtain ⟨y1, y2, y3⟩ := mvN_1 (A := A) (sd := sd) 10
    have eT : ∀ a k, aT (mvN A sd 10) a k = aT A a k := fun a k => by show (mvN A sd 10).2.1 a k = _; rw [y2]
    have eR : ∀ q, aR (mvN A sd 10) q 3 = aR A q 3 := fun q => by show (mvN A sd 10).1 q 3 = _; rw [y1]
    rw [eT] at x2
    rw [wN_cg (A := A) (A' := mvN A sd 10) eR (eT t 1) (eT t 2)] at x4
    exact c2 t d h x1 x2 x3 x4
end TN
