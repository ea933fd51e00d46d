/-! a fabric copied, whole; save and restore -/
section SV
variable {μ ν : mM} {A : Ab} {a b r t d i : Nat} {L : Nat} {xs : Nat → Int32}
/-- all that a copy takes -/
def CpF (μ ν : mM) (a b : Nat) : Prop := (∀ k, 2 ≤ k → k ≤ 6 → mI ν a k = mI μ b k) ∧ (∀ r, r < 8 → (∀ k, k ≤ 5 → mI ν (ro a r) k = mI μ (ro b r) k) ∧ (∀ k, k ≤ 4 → mI ν (ro a r + 1) k = mI μ (ro b r + 1) k) ∧ ∀ d, d < 2 → mI ν (ro a r + 2) d = mI μ (ro b r + 2) d ∧ mI ν (ro a r + 3) d = mI μ (ro b r + 3) d ∧ mI ν (ro a r + 4) d = mI μ (ro b r + 4) d ∧ mF ν (ro a r + 5) d = mF μ (ro b r + 5) d) ∧ ∀ t, t < 10 → (∀ k, k ≤ 5 → mI ν (tu a t) k = mI μ (tu b t) k) ∧ ∀ d, d < 2 → (∀ k, k ≤ 3 → mI ν (wy a t d) k = mI μ (wy b t d) k) ∧ ∀ h j, h < 4 → 1 ≤ j → j ≤ 5 → mI ν (wy a t d + j) h = mI μ (wy b t d + j) h
/-- all flags of a fabric -/
def Flg (μ : mM) (b : Nat) : Prop := (∀ r, r < 8 → mI μ (ro b r) 0 = nI 0 ∨ mI μ (ro b r) 0 = nI 1) ∧ (∀ t, t < 10 → mI μ (tu b t) 0 = nI 0 ∨ mI μ (tu b t) 0 = nI 1) ∧ BZ (mI μ) b
theorem Flg_of (hC : RepC (mI μ) (mF μ) b A) (ht : WFt A) (hu : WFu A) (hB : BZ (mI μ) b) : Flg μ b := by
  refine ⟨fun r hr => ?_, fun t htt => ?_, hB⟩
  · have := ht.le1 hr
    rw [RepC.r0 hC hr]
    have : aR A r 0 = 0 ∨ aR A r 0 = 1 := by omega
    rcases this with e | e <;> rw [e]
    · exact Or.inl rfl
    · exact Or.inr rfl
  · have := hu.le1 htt
    rw [RepC.t0 hC htt]
    have : aT A t 0 = 0 ∨ aT A t 0 = 1 := by omega
    rcases this with e | e <;> rw [e]
    · exact Or.inl rfl
    · exact Or.inr rfl
theorem j13 (hA : FabL (mS μ) (mP μ) a) (hB : FabL (mS μ) (mP μ) b) (hd : a + 181 ≤ b ∨ b + 181 ≤ a) (hf : Flg μ b) : ∃ ν, s13 μ a b = some ν ∧ Fr a (a + 181) μ ν ∧ CpF μ ν a b := by
  obtain ⟨μ1, e1, f1, g1⟩ := mLoop_mem (b := s13L2 a b) (μ := μ) (fun i ν => Fr (a + 3) (a + 51) μ ν ∧ ∀ r, r < i → (∀ k, k ≤ 5 → mI ν (ro a r) k = mI μ (ro b r) k) ∧ (∀ k, k ≤ 4 → mI ν (ro a r + 1) k = mI μ (ro b r + 1) k) ∧ ∀ d, d < 2 → mI ν (ro a r + 2) d = mI μ (ro b r + 2) d ∧ mI ν (ro a r + 3) d = mI μ (ro b r + 3) d ∧ mI ν (ro a r + 4) d = mI μ (ro b r + 4) d ∧ mF ν (ro a r + 5) d = mF μ (ro b r + 5) d) 0 8 (fun i ν hi hJ => by
    obtain ⟨f1, g1⟩ := hJ
    have hA : FabL (mS ν) (mP ν) a := by rw [f1.S, f1.P]; exact hA
    have hB : FabL (mS ν) (mP ν) b := by rw [f1.S, f1.P]; exact hB
    have rb : ∀ j, j < 6 → mI ν (ro b i + j) = mI μ (ro b i + j) ∧ mF ν (ro b i + j) = mF μ (ro b i + j) := fun j hj => f1.2 _ (by unfold ro; omega)
    have rb0 : mI ν (ro b i) = mI μ (ro b i) := (rb 0 (by omega)).1
    obtain ⟨ν', q1, q2, q3, q4, q5⟩ := j70 hA hB hd hi (by rw [rb0]; exact hf.1 i hi) (by rw [(rb 1 (by omega)).1]; exact hf.2.2.1 i hi)
    have mc := m_cl (show i < 2 ^ 31 by omega)
    refine ⟨ν', ?_, f1.trans (q2.mono (by unfold ro; omega) (by unfold ro; omega)), fun r hr => ?_⟩
    · rw [Nat.zero_add]
      unfold s13L2
      refine iteF (by show ¬ nI 8 ≤ nI i; rw [nI_leI (by omega) (by omega)]; omega) (iteT (by rw [FabL.s0 hA]) (iteT (by rw [FabL.p0 hA, FabL.s1 hA]; exact ⟨rfl, (mInb_iff (by omega)).mpr hi⟩) (iteT (by rw [FabL.s0 hB]) (iteT (by rw [FabL.p0 hB, FabL.s1 hB]; exact ⟨rfl, (mInb_iff (by omega)).mpr hi⟩) (iteT (by rw [FabL.p0 hA, mc, FabL.r hA hi, FabL.rs hA hi]) (bindS (v := ν') ?_ ?_))))))
      · rw [FabL.p0 hA, FabL.p0 hB, mc, FabL.r hA hi, FabL.r hB hi]; exact q1
      · show some (Sum.inl (nI i + 1, _)) = _
        rw [show nI i + 1 = nI (i + 1) from nI_add _ 1]
    · by_cases y : r = i
      · subst y
        rw [← (rb 1 (by omega)).1, ← (rb 2 (by omega)).1, ← (rb 3 (by omega)).1, ← (rb 4 (by omega)).1, ← (rb 5 (by omega)).2, ← rb0]
        exact ⟨q3, q4, q5⟩
      · have ra : ∀ j, j < 6 → mI ν' (ro a r + j) = mI ν (ro a r + j) ∧ mF ν' (ro a r + j) = mF ν (ro a r + j) := fun j hj => q2.2 _ (by unfold ro; omega)
        have ra0 : mI ν' (ro a r) = mI ν (ro a r) := (ra 0 (by omega)).1
        rw [ra0, (ra 1 (by omega)).1, (ra 2 (by omega)).1, (ra 3 (by omega)).1, (ra 4 (by omega)).1, (ra 5 (by omega)).2]
        exact g1 r (by omega)) (fun ν hJ => by
    unfold s13L2
    exact iteT (by show nI 8 ≤ nI (0 + 8); rw [nI_leI (by omega) (by omega)]; omega) rfl) ⟨Fr.refl _ _ _, fun r hr => by omega⟩ (n := 1000) (by omega)
  have hA1 : FabL (mS μ1) (mP μ1) a := by rw [f1.S, f1.P]; exact hA
  have hB1 : FabL (mS μ1) (mP μ1) b := by rw [f1.S, f1.P]; exact hB
  have rb1 : ∀ q, b ≤ q → q < b + 181 → mI μ1 q = mI μ q := fun q x y => (f1.2 q (by omega)).1
  obtain ⟨μ2, e2, f2, g2⟩ := mLoop_mem (b := s13L18 a b) (μ := μ1) (fun i ν => Fr (a + 51) (a + 181) μ1 ν ∧ ∀ t, t < i → (∀ k, k ≤ 5 → mI ν (tu a t) k = mI μ (tu b t) k) ∧ ∀ d, d < 2 → (∀ k, k ≤ 3 → mI ν (wy a t d) k = mI μ (wy b t d) k) ∧ ∀ h j, h < 4 → 1 ≤ j → j ≤ 5 → mI ν (wy a t d + j) h = mI μ (wy b t d + j) h) 0 10 (fun i ν hi hJ => by
    obtain ⟨f2, g2⟩ := hJ
    have hA : FabL (mS ν) (mP ν) a := by rw [f2.S, f2.P]; exact hA1
    have hB : FabL (mS ν) (mP ν) b := by rw [f2.S, f2.P]; exact hB1
    have rb : ∀ q, b ≤ q → q < b + 181 → mI ν q = mI μ q := fun q x y => by rw [(f2.2 q (by omega)).1]; exact rb1 q x y
    have rbt : mI ν (tu b i) = mI μ (tu b i) := rb _ (by unfold tu; omega) (by unfold tu; omega)
    have rbw : ∀ d j, d < 2 → j < 6 → mI ν (wy b i d + j) = mI μ (wy b i d + j) := fun d j hd hj => rb _ (by unfold wy; omega) (by unfold wy; omega)
    have rbw0 : ∀ d, d < 2 → mI ν (wy b i d) = mI μ (wy b i d) := fun d hd => rbw d 0 hd (by omega)
    obtain ⟨ν', q1, q2, q3, q4⟩ := j85 hA hB hd hi (by rw [rbt]; exact hf.2.1 i hi) (fun d hd => by rw [rbw0 d hd]; exact hf.2.2.2 i d hi hd)
    have mc := m_cl (show i < 2 ^ 31 by omega)
    refine ⟨ν', ?_, f2.trans (q2.mono (by unfold tu; omega) (by unfold tu; omega)), fun t htt => ?_⟩
    · rw [Nat.zero_add]
      unfold s13L18
      refine iteF (by show ¬ nI 10 ≤ nI i; rw [nI_leI (by omega) (by omega)]; omega) (iteT (by rw [FabL.s0 hA]) (iteT (by rw [FabL.p1 hA, FabL.s2 hA]; exact ⟨rfl, (mInb_iff (by omega)).mpr hi⟩) (iteT (by rw [FabL.s0 hB]) (iteT (by rw [FabL.p1 hB, FabL.s2 hB]; exact ⟨rfl, (mInb_iff (by omega)).mpr hi⟩) (iteT (by rw [FabL.p1 hA, mc, FabL.tp hA hi, FabL.ts hA hi]) (bindS (v := ν') ?_ ?_))))))
      · rw [FabL.p1 hA, FabL.p1 hB, mc, FabL.tp hA hi, FabL.tp hB hi]; exact q1
      · show some (Sum.inl (nI i + 1, _)) = _
        rw [show nI i + 1 = nI (i + 1) from nI_add _ 1]
    · by_cases y : t = i
      · subst y
        refine ⟨fun k hk => by rw [q3 k hk, rbt], fun d hd => ⟨fun k hk => by rw [(q4 d hd).1 k hk, rbw0 d hd], fun h j hh j1 j5 => by rw [(q4 d hd).2 h j hh j1 j5, rbw d j hd (by omega)]⟩⟩
      · have ra : mI ν' (tu a t) = mI ν (tu a t) := (q2.2 _ (by unfold tu; omega)).1
        have rw' : ∀ d j, d < 2 → j < 6 → mI ν' (wy a t d + j) = mI ν (wy a t d + j) := fun d j hd hj => (q2.2 _ (by unfold tu wy; omega)).1
        have rw0 : ∀ d, d < 2 → mI ν' (wy a t d) = mI ν (wy a t d) := fun d hd => rw' d 0 hd (by omega)
        obtain ⟨z1, z2⟩ := g2 t (by omega)
        refine ⟨fun k hk => by rw [ra]; exact z1 k hk, fun d hd => ⟨fun k hk => by rw [rw0 d hd]; exact (z2 d hd).1 k hk, fun h j hh j1 j5 => by rw [rw' d j hd (by omega)]; exact (z2 d hd).2 h j hh j1 j5⟩⟩) (fun ν hJ => by
    unfold s13L18
    exact iteT (by show nI 10 ≤ nI (0 + 10); rw [nI_leI (by omega) (by omega)]; omega) rfl) ⟨Fr.refl _ _ _, fun r hr => by omega⟩ (n := 1000) (by omega)
  have hA2 : FabL (mS μ2) (mP μ2) a := by rw [f2.S, f2.P]; exact hA1
  have hB2 : FabL (mS μ2) (mP μ2) b := by rw [f2.S, f2.P]; exact hB1
  have ne : ¬ b = a := by omega
  obtain ⟨h1, h2, h3, h4⟩ := fc_spec ne [2, 3, 4, 5, 6] μ2
  have f3 := fc_fr (μ := μ2) ne [2, 3, 4, 5, 6]
  refine ⟨fc a b [2, 3, 4, 5, 6] μ2, ?_, ((f1.mono (by omega) (by omega)).trans (f2.mono (by omega) (by omega))).trans (f3.mono (by omega) (by omega)), fun k k1 k2 => ?_, fun r hr => ?_, fun t htt => ?_⟩
  · unfold s13
    refine bindS e1 ?_
    refine bindS e2 ?_
    exact iteT (by rw [FabL.s0 hB2]) (iteT (by rw [FabL.s0 hA2]) rfl)
  · rw [h3 k (by have : k = 2 ∨ k = 3 ∨ k = 4 ∨ k = 5 ∨ k = 6 := by omega
                 rcases this with e | e | e | e | e <;> subst e <;> decide), (f2.2 b (by omega)).1, (f1.2 b (by omega)).1]
  · have ra : ∀ j, j < 6 → mI (fc a b [2, 3, 4, 5, 6] μ2) (ro a r + j) = mI μ1 (ro a r + j) ∧ mF (fc a b [2, 3, 4, 5, 6] μ2) (ro a r + j) = mF μ1 (ro a r + j) := fun j hj => by
      have x1 := f3.2 (ro a r + j) (by unfold ro; omega)
      have x2 := f2.2 (ro a r + j) (by unfold ro; omega)
      exact ⟨x1.1.trans x2.1, x1.2.trans x2.2⟩
    have ra0 : mI (fc a b [2, 3, 4, 5, 6] μ2) (ro a r) = mI μ1 (ro a r) := (ra 0 (by omega)).1
    rw [ra0, (ra 1 (by omega)).1, (ra 2 (by omega)).1, (ra 3 (by omega)).1, (ra 4 (by omega)).1, (ra 5 (by omega)).2]
    exact g1 r hr
  · have ra : mI (fc a b [2, 3, 4, 5, 6] μ2) (tu a t) = mI μ2 (tu a t) := (f3.2 _ (by unfold tu; omega)).1
    have rw' : ∀ d j, d < 2 → j < 6 → mI (fc a b [2, 3, 4, 5, 6] μ2) (wy a t d + j) = mI μ2 (wy a t d + j) := fun d j hd hj => (f3.2 _ (by unfold wy; omega)).1
    have rw0 : ∀ d, d < 2 → mI (fc a b [2, 3, 4, 5, 6] μ2) (wy a t d) = mI μ2 (wy a t d) := fun d hd => rw' d 0 hd (by omega)
    obtain ⟨z1, z2⟩ := g2 t htt
    exact ⟨fun k hk => by rw [ra]; exact z1 k hk, fun d hd => ⟨fun k hk => by rw [rw0 d hd]; exact (z2 d hd).1 k hk, fun h j hh j1 j5 => by rw [rw' d j hd (by omega)]; exact (z2 d hd).2 h j hh j1 j5⟩⟩
theorem Cp_RepC (h : CpF μ ν a b) (hR : RepC (mI μ) (mF μ) b A) (hw : WN A) : RepC (mI ν) (mF ν) a A := by
  obtain ⟨c1, c2, c3⟩ := h
  obtain ⟨h1, h2, h3, h4, h5, h6, h7, h8⟩ := hR
  refine ⟨?_, fun r hr => ?_, fun r hr hp => ?_, fun r r1 hr hp => ?_, fun t ht => ?_, fun t ht ho => ?_, fun t d ht ho hd => ?_, fun t d h ht ho hd hh => ?_⟩
  · rw [c1 2 (by omega) (by omega), c1 3 (by omega) (by omega), c1 4 (by omega) (by omega), c1 5 (by omega) (by omega), c1 6 (by omega) (by omega)]; exact h1
  · rw [(c2 r hr).1 0 (by omega)]; exact h2 r hr
  · obtain ⟨x1, -⟩ := c2 r hr
    rw [x1 1 (by omega), x1 2 (by omega), x1 3 (by omega), x1 4 (by omega), x1 5 (by omega)]; exact h3 r hr hp
  · obtain ⟨-, x2, x3⟩ := c2 r hr
    rw [x2 0 (by omega), x2 1 (by omega), x2 2 (by omega), x2 3 (by omega), x2 4 (by omega)]
    obtain ⟨y1, y2⟩ := h4 r r1 hr hp
    refine ⟨y1, fun d hd => ?_⟩
    obtain ⟨z1, z2, z3, z4⟩ := x3 d hd
    rw [z1, z2, z4]; exact y2 d hd
  · rw [(c3 t ht).1 0 (by omega)]; exact h5 t ht
  · obtain ⟨x1, -⟩ := c3 t ht
    rw [x1 1 (by omega), x1 2 (by omega), x1 3 (by omega), x1 4 (by omega), x1 5 (by omega)]; exact h6 t ht ho
  · obtain ⟨x1, -⟩ := (c3 t ht).2 d hd
    rw [x1 0 (by omega), x1 1 (by omega), x1 2 (by omega), x1 3 (by omega)]; exact h7 t d ht ho hd
  · obtain ⟨-, x2⟩ := (c3 t ht).2 d hd
    have := hw t d ht ho
    rw [x2 h 1 (by omega) (by omega) (by omega), x2 h 2 (by omega) (by omega) (by omega), x2 h 3 (by omega) (by omega) (by omega), x2 h 4 (by omega) (by omega) (by omega)]; exact h8 t d h ht ho hd hh
theorem Cp_SZ (h : CpF μ ν a b) (hz : SZ (mI μ) b A) (hw : WN A) : SZ (mI ν) a A := by
  intro t d k htt ho hd hk
  have := hw t d htt ho
  rw [((h.2.2 t htt).2 d hd).2 k 5 (by omega) (by omega) (by omega)]; exact hz t d k htt ho hd hk
theorem Cp_BZ (h : CpF μ ν a b) (hb : BZ (mI μ) b) : BZ (mI ν) a := ⟨fun r hr => by rw [(h.2.1 r hr).2.1 1 (by omega)]; exact hb.1 r hr, fun t d htt hd => by rw [((h.2.2 t htt).2 d hd).1 0 (by omega)]; exact hb.2 t d htt hd⟩
theorem RepM.cgI {I I' : Nat → Int32} {F F' : Nat → UInt32} (h : RepM I F A) (h1 : ∀ k, k < 433 → I' k = I k) (h2 : ∀ k, k < 16 → F' k = F k) : RepM I' F' A := by
  obtain ⟨q1, q2, q3, q4, q5, q6, q7⟩ := h
  exact ⟨fun r k a b => by rw [h1 _ (by omega)]; exact q1 r k a b, fun t k a b => by rw [h1 _ (by omega)]; exact q2 t k a b, fun t d k a b c => by rw [h1 _ (by omega)]; exact q3 t d k a b c, fun t d h k a b c e => by rw [h1 _ (by omega)]; exact q4 t d h k a b c e, fun r d a b => by rw [h1 _ (by omega)]; exact q5 r d a b, fun k a => by rw [h1 _ (by omega)]; exact q6 k a, fun r d a b => by rw [h2 _ (by omega)]; exact q7 r d a b⟩
theorem SlotOK_tr {j : Nat} (h : SlotOK μ j) (hP : mP ν 192 j = mP μ 192 j) (h5 : mI ν 205 j = mI μ 205 j) (h3 : ∀ k, k < 433 → mI ν 203 (433 * j + k) = mI μ 203 (433 * j + k)) (h4 : ∀ k, k < 16 → mF ν 204 (16 * j + k) = mF μ 204 (16 * j + k)) (hN : mNx μ ≤ mNx ν) (hr : ∀ q, 219 ≤ q → mP μ 192 j ≤ q → q < mP μ 192 j + 181 → q < mNx μ → mI ν q = mI μ q ∧ mF ν q = mF μ q ∧ mS ν q = mS μ q ∧ mP ν q = mP μ q) : SlotOK ν j := by
  rcases h with ⟨z1, z2⟩ | ⟨z1, z2, z3, z4, z5, A, z6, z7, z8, z9⟩
  · exact Or.inl ⟨by rw [hP]; exact z1, by rw [h5]; exact z2⟩
  · refine Or.inr ⟨by rw [h5]; exact z1, by rw [hP]; exact z2, by rw [hP]; omega, ?_, ?_, A, ?_, ?_, z8.cgI h3 h4, z9⟩
    · rw [hP]; exact z4.congr (fun q x y => (hr q (by omega) x y (by omega)).2.2.1) (fun q x y => (hr q (by omega) x y (by omega)).2.2.2)
    · rw [hP]; exact z5.cg (fun r hr' => by rw [(hr _ (by unfold ro; omega) (by unfold ro; omega) (by unfold ro; omega) (by unfold ro; omega)).1]) (fun t d x y => by rw [(hr _ (by unfold wy; omega) (by unfold wy; omega) (by unfold wy; omega) (by unfold wy; omega)).1])
    · rw [hP]; exact z6.congr (fun q x y => (hr q (by omega) x y (by omega)).1) (fun q x y => (hr q (by omega) x y (by omega)).2.1)
    · rw [hP]
      intro t d k x y z w
      rw [(hr _ (by unfold wy; omega) (by unfold wy; omega) (by unfold wy; omega) (by unfold wy; omega)).1]; exact z7 t d k x y z w
theorem ClsL_cg {S S' : LyS} {P P' : LyP} (h : ClsL S P) (hS : ∀ q, q < 200 → S' q = S q) (hP : ∀ q, q < 200 → ¬ q = 192 → P' q = P q) : ClsL S' P' := by
  obtain ⟨a1, a2, a3, a4, a5, a6, a7, a8, a9, a10, ⟨b1, b2, b3⟩, ⟨c1, c2, c3, c4, c5, c6, c7⟩, a13⟩ := h
  refine ⟨by rw [hS 2 (by omega)]; exact a1, by rw [hP 2 (by omega) (by omega)]; exact a2, by rw [hP 2 (by omega) (by omega)]; exact a3, by rw [hP 2 (by omega) (by omega)]; exact a4, by rw [hP 2 (by omega) (by omega)]; exact a5, by rw [hP 2 (by omega) (by omega)]; exact a6, by rw [hP 2 (by omega) (by omega)]; exact a7, a8.congr (fun q x y => hS q (by omega)) (hP 3 (by omega) (by omega)), a9.congr (fun q x y => hS q (by omega)) (fun q x y => hP q (by omega) (by omega)), by rw [hS 192 (by omega)]; exact a10, ⟨by rw [hS 193 (by omega)]; exact b1, by rw [hP 193 (by omega) (by omega)]; exact b2, by rw [hS (193 + 1) (by omega)]; exact b3⟩, ⟨by rw [hS 195 (by omega)]; exact c1, by rw [hP 195 (by omega) (by omega)]; exact c2, by rw [hP 195 (by omega) (by omega)]; exact c3, by rw [hP 195 (by omega) (by omega)]; exact c4, by rw [hS (195 + 1) (by omega)]; exact c5, by rw [hS (195 + 2) (by omega)]; exact c6, by rw [hS (195 + 3) (by omega)]; exact c7⟩, by rw [hS 199 (by omega)]; exact a13⟩
theorem RefL_cg {S S' : LyS} {P P' : LyP} (h : RefL S P) (hS : ∀ q, 200 ≤ q → q < 219 → S' q = S q) (hP : P' 200 = P 200) : RefL S' P' := by
  unfold RefL at *
  rw [hS 200 (by omega) (by omega), hS 201 (by omega) (by omega), hS 202 (by omega) (by omega), hS 203 (by omega) (by omega), hS 204 (by omega) (by omega), hS 205 (by omega) (by omega), hS 206 (by omega) (by omega), hS 207 (by omega) (by omega), hS 208 (by omega) (by omega), hS 209 (by omega) (by omega), hS 210 (by omega) (by omega), hS 211 (by omega) (by omega), hS 212 (by omega) (by omega), hS 213 (by omega) (by omega), hS 214 (by omega) (by omega), hS 215 (by omega) (by omega), hS 216 (by omega) (by omega), hS 217 (by omega) (by omega), hS 218 (by omega) (by omega), hP]
  exact h
/-- the reference saves -/
theorem k236 (hM : RS μ A) (hu : WFu A) (hi : i < 2) : ∃ ν, s236 μ 200 (nI i) = some (nI (sumN (fun t => aT A t 0) 10), ν) ∧ ν.2.2.2 = μ.2.2.2 ∧ (∀ q, ¬ (203 ≤ q ∧ q ≤ 205) → mI ν q = mI μ q ∧ mF ν q = mF μ q) ∧ (∀ j, mI ν 203 j = if 433 * i ≤ j ∧ j < 433 * i + 433 then mI μ 201 (j - 433 * i) else mI μ 203 j) ∧ (∀ j, mF ν 204 j = if 16 * i ≤ j ∧ j < 16 * i + 16 then mF μ 202 (j - 16 * i) else mF μ 204 j) ∧ ∀ j, mI ν 205 j = if j = i then nI 1 else mI μ 205 j := by
  obtain ⟨μ1, e1, f1, g1⟩ := mLoop_mem (b := s236L9 200 (nI i)) (μ := μ) (fun n ν => Fr 203 204 μ ν ∧ ∀ j, mI ν 203 j = if 433 * i ≤ j ∧ j < 433 * i + n then mI μ 201 (j - 433 * i) else mI μ 203 j) 0 433 (fun n ν hn hJ => by
    obtain ⟨f1, g1⟩ := hJ
    have hR := hM.1.fr f1
    refine ⟨mUI ν 203 (433 * i + n) (mI μ 201 n), ?_, f1.trans (Fr_UI _ (by omega) (by omega) _ _), fun j => ?_⟩
    · rw [Nat.zero_add]
      unfold s236L9
      refine iteF (by show ¬ nI 433 ≤ nI n; rw [nI_leI (by omega) (by omega)]; omega) (iteT (by rw [RefL.s hR]) ?_)
      refine ckA (q' := 201) (n := 433) (j := n) (RefL.r0 hR) (RefL.a0 hR) rfl hn (by omega) ?_
      refine stA (q' := 203) (n := 866) (j := 433 * i + n) (x' := mI μ 201 n) (RefL.r2 hR) (RefL.a2 hR) (by show nI 433 * nI i + nI n = _; rw [nI_mul, nI_add]) (by omega) (by omega) (by rw [RefL.r0 hR, m_cl (by omega), (f1.2 201 (by omega)).1]) ?_
      show some (Sum.inl (nI n + 1, _)) = _
      rw [show nI n + 1 = nI (n + 1) from nI_add _ 1]
    · rw [mI_UI]
      by_cases y : j = 433 * i + n
      · rw [if_pos ⟨rfl, y⟩, if_pos (by omega), y]; congr 1; omega
      · rw [if_neg (fun z => y z.2), g1 j]
        by_cases z : 433 * i ≤ j ∧ j < 433 * i + n
        · rw [if_pos z, if_pos (by omega)]
        · rw [if_neg z, if_neg (by omega)]) (fun ν hJ => by
    unfold s236L9
    exact iteT (by show nI 433 ≤ nI (0 + 433); rw [nI_leI (by omega) (by omega)]; omega) rfl) ⟨Fr.refl _ _ _, fun j => by rw [if_neg (by omega)]⟩ (n := 1000) (by omega)
  obtain ⟨μ2, e2, f2, g2⟩ := mLoop_mem (b := s236L28 200 (nI i)) (μ := μ1) (fun n ν => Fr 204 205 μ1 ν ∧ ∀ j, mF ν 204 j = if 16 * i ≤ j ∧ j < 16 * i + n then mF μ1 202 (j - 16 * i) else mF μ1 204 j) 0 16 (fun n ν hn hJ => by
    obtain ⟨f2, g2⟩ := hJ
    have hR := (hM.1.fr f1).fr f2
    refine ⟨mUF ν 204 (16 * i + n) (mF μ1 202 n), ?_, f2.trans (Fr_UF _ (by omega) (by omega) _ _), fun j => ?_⟩
    · rw [Nat.zero_add]
      unfold s236L28
      refine iteF (by show ¬ nI 16 ≤ nI n; rw [nI_leI (by omega) (by omega)]; omega) (iteT (by rw [RefL.s hR]) (iteT ?_ (iteT ?_ (bindS (v := mUF ν 204 (16 * i + n) (mF μ1 202 n)) ?_ ?_))))
      · rw [RefL.r1 hR, RefL.a1 hR]; exact ⟨rfl, (mInb_iff (by omega)).mpr hn⟩
      · show (mS ν (mP ν 200 3)).1 = 11 ∧ mInb (nI 16 * nI i + nI n) (mS ν (mP ν 200 3)).2
        rw [RefL.r3 hR, RefL.a3 hR, nI_mul, nI_add]; exact ⟨rfl, (mInb_iff (by omega)).mpr (by omega)⟩
      · show some (mUF ν (mP ν 200 3) (Int32.toNatClampNeg (nI 16 * nI i + nI n)) (mF ν (mP ν 200 1) (Int32.toNatClampNeg (nI n)))) = _
        rw [RefL.r3 hR, RefL.r1 hR, nI_mul, nI_add, m_cl (by omega), m_cl (by omega), (f2.2 202 (by omega)).2]
      · show some (Sum.inl (nI n + 1, _)) = _
        rw [show nI n + 1 = nI (n + 1) from nI_add _ 1]
    · rw [mF_UF]
      by_cases y : j = 16 * i + n
      · rw [if_pos ⟨rfl, y⟩, if_pos (by omega), y]; congr 1; omega
      · rw [if_neg (fun z => y z.2), g2 j]
        by_cases z : 16 * i ≤ j ∧ j < 16 * i + n
        · rw [if_pos z, if_pos (by omega)]
        · rw [if_neg z, if_neg (by omega)]) (fun ν hJ => by
    unfold s236L28
    exact iteT (by show nI 16 ≤ nI (0 + 16); rw [nI_leI (by omega) (by omega)]; omega) rfl) ⟨Fr.refl _ _ _, fun j => by rw [if_neg (by omega)]⟩ (n := 1000) (by omega)
  have hR2 := (hM.1.fr f1).fr f2
  have hM2 : RS (mUI μ2 205 i (nI 1)) A := ((hM.fr f1 (by omega)).fr f2 (by omega)).fr (Fr_UI (lo := 205) (hi := 206) μ2 (by omega) (by omega) i (nI 1)) (by omega)
  refine ⟨mUI μ2 205 i (nI 1), ?_, by show μ2.2.2.2 = _; rw [f2.1, f1.1], fun q hq => ⟨?_, ?_⟩, fun j => ?_, fun j => ?_, fun j => ?_⟩
  · unfold s236
    refine bindS (v := nI 1) (by show s144 μ (nI i) (nI 0) (nI 1) = _; rw [k144 (by omega) (by omega) (by omega)]; simp [bI]; omega) (iteT (by decide) (bindS e1 ?_))
    refine bindS e2 ?_
    show (if (mS μ2 200).1 = 9 then _ else _) = _
    refine iteT (by rw [RefL.s hR2]) (iteT (by rw [RefL.r4 hR2, RefL.a4 hR2]; exact ⟨rfl, (mInb_iff (by omega)).mpr hi⟩) (bindS (v := mUI μ2 205 i (nI 1)) (by rw [RefL.r4 hR2, m_cl (by omega)]; rfl) (bindS (k234 hM2 hu) rfl)))
  · rw [mI_UIr (by omega), (f2.2 q (by omega)).1, (f1.2 q (by omega)).1]
  · rw [mF_UI, (f2.2 q (by omega)).2, (f1.2 q (by omega)).2]
  · rw [mI_UIr (by omega), (f2.2 203 (by omega)).1]; exact g1 j
  · rw [mF_UI, g2 j, (f1.2 202 (by omega)).2, (f1.2 204 (by omega)).2]
  · rw [mI_UI]
    by_cases y : j = i
    · rw [if_pos ⟨rfl, y⟩, if_pos y]
    · rw [if_neg (fun z => y z.2), if_neg y, (f2.2 205 (by omega)).1, (f1.2 205 (by omega)).1]
/-- the reference restores -/
theorem k237 {B : Ab} (hM : RS μ B) (hs : mI μ 205 i = nI 1) (hS : RepM (fun k => mI μ 203 (433 * i + k)) (fun k => mF μ 204 (16 * i + k)) A) (hu : WFu A) (hi : i < 2) : ∃ ν, s237 μ 200 (nI i) = some (nI (sumN (fun t => aT A t 0) 10), ν) ∧ RS ν A ∧ Fr 201 203 μ ν := by
  have hR := hM.1
  obtain ⟨μ1, e1, f1, g1⟩ := mLoop_mem (b := s237L16 200 (nI i)) (μ := μ) (fun n ν => Fr 201 202 μ ν ∧ ∀ j, j < n → mI ν 201 j = mI μ 203 (433 * i + j)) 0 433 (fun n ν hn hJ => by
    obtain ⟨f1, g1⟩ := hJ
    have hR := hM.1.fr f1
    refine ⟨mUI ν 201 n (mI μ 203 (433 * i + n)), ?_, f1.trans (Fr_UI _ (by omega) (by omega) _ _), fun j hj => ?_⟩
    · rw [Nat.zero_add]
      have e4 : (433 : Int32) * nI i + nI n = nI (433 * i + n) := by show nI 433 * nI i + nI n = _; rw [nI_mul, nI_add]
      unfold s237L16
      refine iteF (by show ¬ nI 433 ≤ nI n; rw [nI_leI (by omega) (by omega)]; omega) (iteT (by rw [RefL.s hR]) ?_)
      refine ckA (q' := 203) (n := 866) (j := 433 * i + n) (RefL.r2 hR) (RefL.a2 hR) e4 (by omega) (by omega) ?_
      refine stA (q' := 201) (n := 433) (j := n) (x' := mI μ 203 (433 * i + n)) (RefL.r0 hR) (RefL.a0 hR) rfl hn (by omega) ?_ ?_
      · show mI ν (mP ν 200 2) (Int32.toNatClampNeg (433 * nI i + nI n)) = _
        rw [RefL.r2 hR, e4, m_cl (by omega), (f1.2 203 (by omega)).1]
      · show some (Sum.inl (nI n + 1, _)) = _
        rw [show nI n + 1 = nI (n + 1) from nI_add _ 1]
    · rw [mI_UI]
      by_cases y : j = n
      · rw [if_pos ⟨rfl, y⟩, y]
      · rw [if_neg (fun z => y z.2)]; exact g1 j (by omega)) (fun ν hJ => by
    unfold s237L16
    exact iteT (by show nI 433 ≤ nI (0 + 433); rw [nI_leI (by omega) (by omega)]; omega) rfl) ⟨Fr.refl _ _ _, fun j hj => by omega⟩ (n := 1000) (by omega)
  obtain ⟨μ2, e2, f2, g2⟩ := mLoop_mem (b := s237L35 200 (nI i)) (μ := μ1) (fun n ν => Fr 202 203 μ1 ν ∧ ∀ j, j < n → mF ν 202 j = mF μ 204 (16 * i + j)) 0 16 (fun n ν hn hJ => by
    obtain ⟨f2, g2⟩ := hJ
    have hR := (hM.1.fr f1).fr f2
    refine ⟨mUF ν 202 n (mF μ 204 (16 * i + n)), ?_, f2.trans (Fr_UF _ (by omega) (by omega) _ _), fun j hj => ?_⟩
    · rw [Nat.zero_add]
      have e4 : (16 : Int32) * nI i + nI n = nI (16 * i + n) := by show nI 16 * nI i + nI n = _; rw [nI_mul, nI_add]
      unfold s237L35
      refine iteF (by show ¬ nI 16 ≤ nI n; rw [nI_leI (by omega) (by omega)]; omega) (iteT (by rw [RefL.s hR]) (iteT ?_ (iteT ?_ (bindS (v := mUF ν 202 n (mF μ 204 (16 * i + n))) ?_ ?_))))
      · show (mS ν (mP ν 200 3)).1 = 11 ∧ mInb (16 * nI i + nI n) (mS ν (mP ν 200 3)).2
        rw [RefL.r3 hR, RefL.a3 hR, e4]; exact ⟨rfl, (mInb_iff (by omega)).mpr (by omega)⟩
      · rw [RefL.r1 hR, RefL.a1 hR]; exact ⟨rfl, (mInb_iff (by omega)).mpr hn⟩
      · show some (mUF ν (mP ν 200 1) (Int32.toNatClampNeg (nI n)) (mF ν (mP ν 200 3) (Int32.toNatClampNeg (16 * nI i + nI n)))) = _
        rw [RefL.r3 hR, RefL.r1 hR, e4, m_cl (by omega), m_cl (by omega), (f2.2 204 (by omega)).2, (f1.2 204 (by omega)).2]
      · show some (Sum.inl (nI n + 1, _)) = _
        rw [show nI n + 1 = nI (n + 1) from nI_add _ 1]
    · rw [mF_UF]
      by_cases y : j = n
      · rw [if_pos ⟨rfl, y⟩, y]
      · rw [if_neg (fun z => y z.2)]; exact g2 j (by omega)) (fun ν hJ => by
    unfold s237L35
    exact iteT (by show nI 16 ≤ nI (0 + 16); rw [nI_leI (by omega) (by omega)]; omega) rfl) ⟨Fr.refl _ _ _, fun j hj => by omega⟩ (n := 1000) (by omega)
  have hR2 := (hM.1.fr f1).fr f2
  have hM2 : RS μ2 A := ⟨hR2, hS.cgI (fun k hk => by rw [(f2.2 201 (by omega)).1]; exact g1 k hk) (fun k hk => g2 k hk)⟩
  refine ⟨μ2, ?_, hM2, (f1.mono (by omega) (by omega)).trans (f2.mono (by omega) (by omega))⟩
  unfold s237
  refine bindS (v := nI 1) (by show s144 μ (nI i) (nI 0) (nI 1) = _; rw [k144 (by omega) (by omega) (by omega)]; simp [bI]; omega) (iteT (by decide) (iteT (by rw [RefL.s hR]) (iteT (by rw [RefL.r4 hR, RefL.a4 hR]; exact ⟨rfl, (mInb_iff (by omega)).mpr hi⟩) (iteT (by rw [RefL.r4 hR, m_cl (by omega), hs]; decide) (bindS e1 ?_)))))
  refine bindS e2 ?_
  exact iteT (by rw [RefL.s hR2]) (bindS (k234 hM2 hu) rfl)
end SV
