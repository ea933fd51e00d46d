/-! the tick: the reference's passes -/
section TK
variable {μ ν ν1 : mM} {A : Ab} {r t d n m k a b v : Nat} {sd : SD}
theorem k219z {q N : Nat} {f : Int32 × mM → Option ((Int32 × mM) ⊕ ((mM) ⊕ (Int32 × mM)))} (hM : RS μ A) (hq : q = 213 ∨ q = 214) (hN : N ≤ 100) (hs : ∀ i ν, i < N → RS ν A → f (nI i, ν) = some (.inl (nI i + 1, mUI ν q i 0))) (he : ∀ ν, f (nI N, ν) = some (.inr (.inl ν))) : ∃ ν, mLoop f 1000 (0, μ) = some (.inl ν) ∧ Fr q (q + 1) μ ν ∧ ∀ j, j < N → mI ν q j = nI 0 := by
  obtain ⟨ν, e, f1, g1⟩ := mLoop_mem (b := f) (μ := μ) (fun i ν => Fr q (q + 1) μ ν ∧ ∀ j, j < i → mI ν q j = nI 0) 0 N (fun i ν hi hJ => by
    obtain ⟨f1, g1⟩ := hJ
    have hM' : RS ν A := hM.fr f1 (by omega)
    rw [Nat.zero_add]
    refine ⟨mUI ν q i 0, ?_, f1.trans (Fr_UI ν (by omega) (by omega) _ _), fun j hj => ?_⟩
    · rw [hs i ν hi hM', show nI i + 1 = nI (i + 1) from nI_add i 1]
    · rw [mI_UI]
      by_cases z : j = i
      · rw [if_pos ⟨rfl, z⟩]; rfl
      · rw [if_neg (fun y => z y.2)]; exact g1 j (by omega)) (fun ν hJ => by rw [Nat.zero_add]; exact he ν) ⟨Fr.refl _ _ _, fun j hj => by omega⟩ (n := 1000) (by omega)
  exact ⟨ν, e, f1, g1⟩
theorem k219a (hM : RS μ A) : ∃ ν, mLoop (s219L4 200) 1000 (0, μ) = some (.inl ν) ∧ Fr 213 214 μ ν ∧ ∀ j, j < 80 → mI ν 213 j = nI 0 := k219z hM (Or.inl rfl) (by omega) (fun i ν hi h => by
  have hR := h.1
  unfold s219L4
  exact iteF (by show ¬ nI 80 ≤ nI i; rw [nI_leI (by omega) (by omega)]; omega) (iteT (by rw [RefL.s hR]) (iteT (by rw [RefL.r14 hR, RefL.a14 hR]; exact ⟨rfl, (mInb_iff (by omega)).mpr hi⟩) (bindS (v := mUI ν 213 i 0) (by rw [RefL.r14 hR, m_cl (by omega)]) rfl)))) (fun ν => by
  unfold s219L4
  exact iteT (show nI 80 ≤ nI 80 by decide) rfl)
theorem k219b (hM : RS μ A) : ∃ ν, mLoop (s219L16 200) 1000 (0, μ) = some (.inl ν) ∧ Fr 214 215 μ ν ∧ ∀ j, j < 16 → mI ν 214 j = nI 0 := k219z hM (Or.inr rfl) (by omega) (fun i ν hi h => by
  have hR := h.1
  unfold s219L16
  exact iteF (by show ¬ nI 16 ≤ nI i; rw [nI_leI (by omega) (by omega)]; omega) (iteT (by rw [RefL.s hR]) (iteT (by rw [RefL.r15 hR, RefL.a15 hR]; exact ⟨rfl, (mInb_iff (by omega)).mpr hi⟩) (bindS (v := mUI ν 214 i 0) (by rw [RefL.r15 hR, m_cl (by omega)]) rfl)))) (fun ν => by
  unfold s219L16
  exact iteT (show nI 16 ≤ nI 16 by decide) rfl)
theorem k28d (hM : RS μ A) (ht : WFt A) (hu : WFu A) (hs : SO A sd) (hX : SRf μ sd) (hv : mI μ 214 (2 * r + d) = nI 0) (h1 : 1 ≤ r) (hr : r < 8) (hp : aR A r 0 = 1) (hd : d < 2) : ∃ ν, s219L28L33 200 (nI r) (nI d, μ) = some (.inl (nI (d + 1), ν)) ∧ RS ν (ps A sd r d).1 ∧ SRf ν (ps A sd r d).2.1 ∧ SO (ps A sd r d).1 (ps A sd r d).2.1 ∧ WFt (ps A sd r d).1 ∧ WFu (ps A sd r d).1 ∧ mI ν 214 (2 * r + d) = nI (ps A sd r d).2.2 ∧ (∀ j, ¬ j = 2 * r + d → mI ν 214 j = mI μ 214 j) ∧ FrR μ ν := by
  have hR := hM.1
  obtain ⟨-, -, -, -, -, -, -, -, w5, w6, -⟩ := ht.w h1 hr hp
  have x0 := k148 hM hr (k := 0) (by omega)
  have x6 := k148 hM hr (k := 6) (by omega)
  have nx : nI d + 1 = nI (d + 1) := nI_add d 1
  have pre : ∀ q, (if 2 ≤ nI (aR A r 6) then (s219L28L33_52 200 (nI r) μ (nI d)) else ((s215 μ 200 (nI r) (nI d)).bind fun q25 => s219L28L33_52 200 (nI r) q25 (nI d))) = q → s219L28L33 200 (nI r) (nI d, μ) = q := fun q hq => by
    unfold s219L28L33
    exact iteF (by show ¬ nI 2 ≤ nI d; rw [nI_leI (by omega) (by omega)]; omega) (iteT (by rw [RefL.s hR]) (bindS x0 (iteF (by rw [hp]; decide) (bindS x6 hq))))
  by_cases aw : aR A r 6 < 2
  · obtain ⟨ν, e, c1, c2, c3, c4, c5, c6, c7⟩ := k215 hM ht hu hs hX hv h1 hr hp hd
    have pse : ps A sd r d = (setR A r (9 + d) (psF A sd r d).2.2, (psF A sd r d).2.1, cap A r d - (psF A sd r d).1) := by unfold ps; rw [if_pos aw]
    obtain ⟨t1, u1⟩ := ps_wf (sd := sd) (r := r) (v := (psF A sd r d).2.2) ht hu (Or.inl ⟨by rw [pse], c7⟩) hd
    rw [pse] at t1 u1 ⊢
    refine ⟨ν, pre _ ?_, c1, c2, SO_R (by omega) c6, t1, u1, c3, c4, c5⟩
    refine iteF (by show ¬ nI 2 ≤ nI _; rw [nI_leI (by omega) (by omega)]; omega) (bindS e ?_)
    show some (Sum.inl (nI d + 1, _)) = _
    rw [nx]
  · have pse : ps A sd r d = (A, sd, 0) := by unfold ps; rw [if_neg aw]
    rw [pse]
    refine ⟨μ, pre _ ?_, hM, hX, hs, ht, hu, hv, fun j _ => rfl, FrR.refl _⟩
    refine iteT (by show nI 2 ≤ nI _; rw [nI_leI (by omega) (by omega)]; omega) ?_
    show some (Sum.inl (nI d + 1, _)) = _
    rw [nx]
/-- the reference stands so -/
def KM (μ0 μ : mM) (s : P3) : Prop := RS μ s.1 ∧ SRf μ s.2.1 ∧ SO s.1 s.2.1 ∧ WFt s.1 ∧ WFu s.1 ∧ FrR μ0 μ ∧ ∀ a b, a < 8 → b < 2 → mI μ 214 (2 * a + b) = nI (s.2.2 a b)
theorem k28 {μ0 : mM} {s : P3} (h : KM μ0 μ s) (h1 : 1 ≤ r) (hr : r < 8) (hz : ∀ b, s.2.2 r b = 0) : ∃ ν, mLoop (s219L28L33 200 (nI r)) 1000 (0, μ) = some (.inl ν) ∧ KM μ0 ν (p2 s r) := by
  obtain ⟨hM, hX, hs, ht, hu, hf, ho⟩ := h
  have l1 := ht.le1 hr
  by_cases hp : aR s.1 r 0 = 1
  · have z0 := ho r 0 hr (by omega)
    have z1 := ho r 1 hr (by omega)
    rw [hz] at z0 z1
    obtain ⟨ν1, e1, c1, x1, s1', t1, u1, v1, o1, f1⟩ := k28d (d := 0) hM ht hu hs hX z0 h1 hr hp (by omega)
    have hp1 : aR (ps s.1 s.2.1 r 0).1 r 0 = 1 := by rw [ps_R (by omega)]; exact hp
    obtain ⟨ν2, e2, c2, x2, s2', t2, u2, v2, o2, f2⟩ := k28d (d := 1) c1 t1 u1 s1' x1 (by rw [o1 _ (by omega)]; exact z1) h1 hr hp1 (by omega)
    have pe : p2 s r = ((ps (ps s.1 s.2.1 r 0).1 (ps s.1 s.2.1 r 0).2.1 r 1).1, (ps (ps s.1 s.2.1 r 0).1 (ps s.1 s.2.1 r 0).2.1 r 1).2.1, up2n s.2.2 r (ps s.1 s.2.1 r 0).2.2 (ps (ps s.1 s.2.1 r 0).1 (ps s.1 s.2.1 r 0).2.1 r 1).2.2) := by unfold p2; rw [if_pos hp]
    rw [pe]
    refine ⟨ν2, ?_, c2, x2, s2', t2, u2, (hf.trans f1).trans f2, fun a b ha hb => ?_⟩
    · exact mLoop_seq0 (b := s219L28L33 200 (nI r)) (fun i => (nI i, if i = 0 then μ else if i = 1 then ν1 else ν2)) 2 (o := .inl ν2) (fun i hi => by
        have : i = 0 ∨ i = 1 := by omega
        rcases this with e | e <;> subst e
        · exact e1
        · exact e2) (by
        unfold s219L28L33
        exact iteT (show nI 2 ≤ nI 2 by decide) rfl) (n := 1000) (by omega)
    · show mI ν2 214 (2 * a + b) = nI (if a = r then _ else _)
      by_cases e : a = r
      · rw [if_pos e]
        have : b = 0 ∨ b = 1 := by omega
        rcases this with e' | e' <;> subst e'
        · rw [if_pos rfl, o2 _ (by omega), e]; exact v1
        · rw [if_neg (by omega), e]; exact v2
      · rw [if_neg e, o2 _ (by omega), o1 _ (by omega)]; exact ho a b ha hb
  · have pe : p2 s r = s := by unfold p2; rw [if_neg hp]
    rw [pe]
    refine ⟨μ, ?_, hM, hX, hs, ht, hu, hf, ho⟩
    have hR := hM.1
    have x0 := k148 hM hr (k := 0) (by omega)
    exact mLoop_seq0 (b := s219L28L33 200 (nI r)) (fun i => (nI i, μ)) 2 (o := .inl μ) (fun i hi => by
      unfold s219L28L33
      refine iteF (by show ¬ nI 2 ≤ nI i; rw [nI_leI (by omega) (by omega)]; omega) (iteT (by rw [RefL.s hR]) (bindS x0 (iteT (by show ¬ nI _ = nI 1; rw [nI_eq (by omega) (by omega)]; exact hp) ?_)))
      show some (Sum.inl (nI i + nI 1, _)) = _
      rw [nI_add]) (by
      unfold s219L28L33
      exact iteT (show nI 2 ≤ nI 2 by decide) rfl) (n := 1000) (by omega)
theorem k219c {μ0 : mM} {s : P3} (h : KM μ0 μ s) (hz : ∀ a b, s.2.2 a b = 0) : ∃ ν, mLoop (s219L28 200) 1000 (1, μ) = some (.inl ν) ∧ KM μ0 ν (p2N s 7) := by
  obtain ⟨ν, e, c⟩ := mLoop_mem (b := s219L28 200) (μ := μ) (fun i ν => KM μ0 ν (p2N s i)) 1 7 (fun i ν hi c => by
    obtain ⟨ν', e', c'⟩ := k28 (r := 1 + i) c (by omega) (by omega) (fun b => by rw [p2N_o (by omega)]; exact hz _ _)
    rw [show p2N s (i + 1) = p2 (p2N s i) (1 + i) by rw [Nat.add_comm 1 i]; rfl]
    refine ⟨ν', ?_, c'⟩
    unfold s219L28
    refine iteF (by show ¬ nI 8 ≤ nI (1 + i); rw [nI_leI (by omega) (by omega)]; omega) (bindS e' ?_)
    show some (Sum.inl (nI (1 + i) + nI 1, _)) = _
    rw [nI_add]) (fun ν hJ => by
    unfold s219L28
    exact iteT (show nI 8 ≤ nI (1 + 7) by decide) rfl) h (n := 1000) (by omega)
  exact ⟨ν, e, c⟩
end TK
