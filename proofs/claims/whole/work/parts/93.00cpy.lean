/-! a fabric copied -/
/-- fields copied one by one -/
def fc (p q : Nat) : List Nat → mM → mM
  | [], μ => μ
  | k :: ks, μ => fc p q ks (mUI μ p k (mI μ q k))
section CY
variable {μ ν : mM} {p q a b r t d : Nat}
theorem fc_spec (h : ¬ q = p) : ∀ (ks : List Nat) (μ : mM), (fc p q ks μ).2 = μ.2 ∧ (∀ x, ¬ x = p → mI (fc p q ks μ) x = mI μ x) ∧ (∀ k, k ∈ ks → mI (fc p q ks μ) p k = mI μ q k) ∧ ∀ k, ¬ k ∈ ks → mI (fc p q ks μ) p k = mI μ p k
  | [], μ => ⟨rfl, fun _ _ => rfl, fun k hk => (by cases hk), fun _ _ => rfl⟩
  | k :: ks, μ => by
    obtain ⟨h1, h2, h3, h4⟩ := fc_spec h ks (mUI μ p k (mI μ q k))
    refine ⟨h1, fun x hx => ?_, fun j hj => ?_, fun j hj => ?_⟩
    · show mI (fc p q ks (mUI μ p k (mI μ q k))) x = _
      rw [h2 x hx]; exact mI_UIr hx
    · show mI (fc p q ks (mUI μ p k (mI μ q k))) p j = _
      by_cases y : j ∈ ks
      · rw [h3 j y, mI_UI, if_neg (fun z => h z.1)]
      · rw [h4 j y]
        have : j = k := by
          rcases List.mem_cons.mp hj with e | e
          · exact e
          · exact absurd e y
        rw [mI_UI, if_pos ⟨rfl, this⟩, this]
    · show mI (fc p q ks (mUI μ p k (mI μ q k))) p j = _
      have y : ¬ j ∈ ks := fun z => hj (List.mem_cons.mpr (Or.inr z))
      have y2 : ¬ j = k := fun z => hj (List.mem_cons.mpr (Or.inl z))
      rw [h4 j y, mI_UI, if_neg (fun z => y2 z.2)]
theorem fc_fr (h : ¬ q = p) (ks : List Nat) : Fr p (p + 1) μ (fc p q ks μ) := by
  obtain ⟨h1, h2, -⟩ := fc_spec h ks μ
  exact ⟨by rw [h1], fun x hx => ⟨h2 x (by omega), by show (fc p q ks μ).2.1 x = _; rw [h1]⟩⟩
/-- a link copied -/
theorem j58 (hA : FabL (mS μ) (mP μ) a) (hB : FabL (mS μ) (mP μ) b) (hd : a + 181 ≤ b ∨ b + 181 ≤ a) (hr : r < 8) (hw : mI μ (ro b r + 1) 1 = nI 0 ∨ mI μ (ro b r + 1) 1 = nI 1) : ∃ ν, s58 μ (ro a r + 1) (ro b r + 1) = some ν ∧ Fr (ro a r + 1) (ro a r + 6) μ ν ∧ (∀ k, k ≤ 4 → mI ν (ro a r + 1) k = mI μ (ro b r + 1) k) ∧ ∀ d, d < 2 → mI ν (ro a r + 2) d = mI μ (ro b r + 2) d ∧ mI ν (ro a r + 3) d = mI μ (ro b r + 3) d ∧ mI ν (ro a r + 4) d = mI μ (ro b r + 4) d ∧ mF ν (ro a r + 5) d = mF μ (ro b r + 5) d := by
  have ne : ¬ ro b r + 1 = ro a r + 1 := by unfold ro; omega
  have far : ∀ j, j < 6 → ro b r + j < ro a r ∨ ro a r + 6 ≤ ro b r + j := fun j hj => by unfold ro; omega
  obtain ⟨g1, g2, g3, g4⟩ := fc_spec ne [0, 1, 2, 3, 4] μ
  have f1 := fc_fr (μ := μ) ne [0, 1, 2, 3, 4]
  have e0 : ∀ {R}, (mLoop (s58L22 (ro a r + 1) (ro b r + 1)) 1000 (nI 0, fc (ro a r + 1) (ro b r + 1) [0, 1, 2, 3, 4] μ)).bind (fun o24 => Sum.elim (fun x25 => some x25) (fun y26 => some y26) o24) = R → s58 μ (ro a r + 1) (ro b r + 1) = R := fun {R} hR => by
    unfold s58
    refine iteT (by rw [FabL.ls hB hr]) (iteT (by rw [FabL.ls hA hr]) (bindS rfl (iteT ?_ ?_)))
    · rw [mI_UIr ne]; exact hw
    · exact bindS rfl (bindS rfl (bindS rfl (bindS rfl hR)))
  generalize fc (ro a r + 1) (ro b r + 1) [0, 1, 2, 3, 4] μ = μ1 at *
  have hA1 : FabL (mS μ1) (mP μ1) a := by rw [f1.S, f1.P]; exact hA
  have hB1 : FabL (mS μ1) (mP μ1) b := by rw [f1.S, f1.P]; exact hB
  obtain ⟨ν, e1, f2, g5⟩ := mLoop_mem (b := s58L22 (ro a r + 1) (ro b r + 1)) (μ := μ1) (fun i ν => Fr (ro a r + 2) (ro a r + 6) μ1 ν ∧ ∀ d, d < i → mI ν (ro a r + 2) d = mI μ1 (ro b r + 2) d ∧ mI ν (ro a r + 3) d = mI μ1 (ro b r + 3) d ∧ mI ν (ro a r + 4) d = mI μ1 (ro b r + 4) d ∧ mF ν (ro a r + 5) d = mF μ1 (ro b r + 5) d) 0 2 (fun i ν hi hJ => by
    obtain ⟨f2, g5⟩ := hJ
    have hA : FabL (mS ν) (mP ν) a := by rw [f2.S, f2.P]; exact hA1
    have hB : FabL (mS ν) (mP ν) b := by rw [f2.S, f2.P]; exact hB1
    have rb : ∀ j, j < 6 → mI ν (ro b r + j) = mI μ1 (ro b r + j) ∧ mF ν (ro b r + j) = mF μ1 (ro b r + j) := fun j hj => f2.2 _ (by have := far j hj; omega)
    have far2 := far 2 (by omega)
    have far3 := far 3 (by omega)
    have far4 := far 4 (by omega)
    have mc := m_cl (show i < 2 ^ 31 by omega)
    refine ⟨mUF (mUI (mUI (mUI ν (ro a r + 2) i (mI μ1 (ro b r + 2) i)) (ro a r + 3) i (mI μ1 (ro b r + 3) i)) (ro a r + 4) i (mI μ1 (ro b r + 4) i)) (ro a r + 5) i (mF μ1 (ro b r + 5) i), ?_, (((f2.trans (Fr_UI _ (by omega) (by omega) _ _)).trans (Fr_UI _ (by omega) (by omega) _ _)).trans (Fr_UI _ (by omega) (by omega) _ _)).trans (Fr_UF _ (by omega) (by omega) _ _), fun d hd => ?_⟩
    · rw [Nat.zero_add]
      unfold s58L22
      refine iteF (by show ¬ nI 2 ≤ nI i; rw [nI_leI (by omega) (by omega)]; omega) (iteT (by rw [FabL.ls hA hr]) (iteT (by rw [FabL.ls hB hr]) ?_))
      refine ckA (q' := ro b r + 2) (n := 2) (j := i) (FabL.l5 hB hr) (FabL.q2 hB hr) rfl hi (by omega) ?_
      refine stA (q' := ro a r + 2) (n := 2) (j := i) (x' := mI μ1 (ro b r + 2) i) (FabL.l5 hA hr) (FabL.q2 hA hr) rfl hi (by omega) (by rw [FabL.l5 hB hr, mc, (rb 2 (by omega)).1]) ?_
      refine ckA (q' := ro b r + 3) (n := 2) (j := i) (FabL.l6 hB hr) (FabL.q3 hB hr) rfl hi (by omega) ?_
      refine stA (q' := ro a r + 3) (n := 2) (j := i) (x' := mI μ1 (ro b r + 3) i) (FabL.l6 hA hr) (FabL.q3 hA hr) rfl hi (by omega) (by rw [mP_UI, FabL.l6 hB hr, mc, mI_UIr (by omega), (rb 3 (by omega)).1]) ?_
      refine ckA (q' := ro b r + 4) (n := 2) (j := i) (FabL.l7 hB hr) (FabL.q4 hB hr) rfl hi (by omega) ?_
      refine stA (q' := ro a r + 4) (n := 2) (j := i) (x' := mI μ1 (ro b r + 4) i) (FabL.l7 hA hr) (FabL.q4 hA hr) rfl hi (by omega) (by rw [mP_UI, mP_UI, FabL.l7 hB hr, mc, mI_UIr (by omega), mI_UIr (by omega), (rb 4 (by omega)).1]) ?_
      refine iteT ?_ (iteT ?_ (bindS (v := mUF (mUI (mUI (mUI ν (ro a r + 2) i (mI μ1 (ro b r + 2) i)) (ro a r + 3) i (mI μ1 (ro b r + 3) i)) (ro a r + 4) i (mI μ1 (ro b r + 4) i)) (ro a r + 5) i (mF μ1 (ro b r + 5) i)) ?_ ?_))
      · show (mS ν (mP ν (ro b r + 1) 8)).1 = 11 ∧ mInb (nI i) (mS ν (mP ν (ro b r + 1) 8)).2
        rw [FabL.l8 hB hr, FabL.q5 hB hr]; exact ⟨rfl, (mInb_iff (by omega)).mpr hi⟩
      · show (mS ν (mP ν (ro a r + 1) 8)).1 = 11 ∧ mInb (nI i) (mS ν (mP ν (ro a r + 1) 8)).2
        rw [FabL.l8 hA hr, FabL.q5 hA hr]; exact ⟨rfl, (mInb_iff (by omega)).mpr hi⟩
      · show some (mUF _ (mP ν (ro a r + 1) 8) (Int32.toNatClampNeg (nI i)) (mF ν (mP ν (ro b r + 1) 8) (Int32.toNatClampNeg (nI i)))) = _
        rw [FabL.l8 hA hr, FabL.l8 hB hr, mc, (rb 5 (by omega)).2]
      · show some (Sum.inl (nI i + 1, _)) = _
        rw [show nI i + 1 = nI (i + 1) from nI_add _ 1]
    · by_cases y : d = i
      · subst y
        simp [mI_UI, mF_UF, mI_UF]
      · have := g5 d (by omega)
        simp [mI_UI, mF_UF, mI_UF, mF_UI, y]; exact this) (fun ν hJ => by
    unfold s58L22
    exact iteT (by show nI 2 ≤ nI (0 + 2); rw [nI_leI (by omega) (by omega)]; omega) rfl) ⟨Fr.refl _ _ _, fun d hd => by omega⟩ (n := 1000) (by omega)
  have r1 := (f2.2 (ro a r + 1) (by omega)).1
  refine ⟨ν, e0 (bindS e1 rfl), (f1.mono (Nat.le_refl _) (by omega)).trans (f2.mono (by omega) (Nat.le_refl _)), fun k hk => ?_, fun d hd => ?_⟩
  · rw [r1]
    exact g3 k (by have : k = 0 ∨ k = 1 ∨ k = 2 ∨ k = 3 ∨ k = 4 := by omega
                   rcases this with e | e | e | e | e <;> subst e <;> decide)
  · have rb : ∀ j, 2 ≤ j → j < 6 → mI μ1 (ro b r + j) = mI μ (ro b r + j) ∧ mF μ1 (ro b r + j) = mF μ (ro b r + j) := fun j j1 hj => f1.2 _ (by have := far j hj; omega)
    rw [← (rb 2 (by omega) (by omega)).1, ← (rb 3 (by omega) (by omega)).1, ← (rb 4 (by omega) (by omega)).1, ← (rb 5 (by omega) (by omega)).2]
    exact g5 d hd
theorem j70 (hA : FabL (mS μ) (mP μ) a) (hB : FabL (mS μ) (mP μ) b) (hd : a + 181 ≤ b ∨ b + 181 ≤ a) (hr : r < 8) (hp : mI μ (ro b r) 0 = nI 0 ∨ mI μ (ro b r) 0 = nI 1) (hw : mI μ (ro b r + 1) 1 = nI 0 ∨ mI μ (ro b r + 1) 1 = nI 1) : ∃ ν, s70 μ (ro a r) (ro b r) = some ν ∧ Fr (ro a r) (ro a r + 6) μ ν ∧ (∀ k, k ≤ 5 → mI ν (ro a r) k = mI μ (ro b r) k) ∧ (∀ k, k ≤ 4 → mI ν (ro a r + 1) k = mI μ (ro b r + 1) k) ∧ ∀ d, d < 2 → mI ν (ro a r + 2) d = mI μ (ro b r + 2) d ∧ mI ν (ro a r + 3) d = mI μ (ro b r + 3) d ∧ mI ν (ro a r + 4) d = mI μ (ro b r + 4) d ∧ mF ν (ro a r + 5) d = mF μ (ro b r + 5) d := by
  have ne : ¬ ro b r = ro a r := by unfold ro; omega
  have far : ∀ j, j < 6 → ro b r + j < ro a r ∨ ro a r + 6 ≤ ro b r + j := fun j hj => by unfold ro; omega
  obtain ⟨g1, g2, g3, g4⟩ := fc_spec ne [0, 1, 2, 3, 4, 5] μ
  have f1 := fc_fr (μ := μ) ne [0, 1, 2, 3, 4, 5]
  have e0 : ∀ {R}, (if (mS (fc (ro a r) (ro b r) [0, 1, 2, 3, 4, 5] μ) (mP (fc (ro a r) (ro b r) [0, 1, 2, 3, 4, 5] μ) (ro a r) 6)).1 = 2 then (s58 (fc (ro a r) (ro b r) [0, 1, 2, 3, 4, 5] μ) (mP (fc (ro a r) (ro b r) [0, 1, 2, 3, 4, 5] μ) (ro a r) 6) (mP (fc (ro a r) (ro b r) [0, 1, 2, 3, 4, 5] μ) (ro b r) 6)).bind fun q11 => some q11 else none) = R → s70 μ (ro a r) (ro b r) = R := fun {R} hR => by
    unfold s70
    exact iteT (by rw [FabL.rs hB hr]) (iteT (by rw [FabL.rs hA hr]) (iteT hp (bindS rfl (bindS rfl (bindS rfl (bindS rfl (bindS rfl (bindS rfl hR))))))))
  generalize fc (ro a r) (ro b r) [0, 1, 2, 3, 4, 5] μ = μ1 at *
  have hA1 : FabL (mS μ1) (mP μ1) a := by rw [f1.S, f1.P]; exact hA
  have hB1 : FabL (mS μ1) (mP μ1) b := by rw [f1.S, f1.P]; exact hB
  have rb : ∀ j, j < 6 → mI μ1 (ro b r + j) = mI μ (ro b r + j) ∧ mF μ1 (ro b r + j) = mF μ (ro b r + j) := fun j hj => f1.2 _ (by have := far j hj; omega)
  obtain ⟨ν, e1, f2, g5, g6⟩ := j58 hA1 hB1 hd hr (by rw [(rb 1 (by omega)).1]; exact hw)
  refine ⟨ν, e0 (iteT (by rw [FabL.rl hA1 hr, FabL.ls hA1 hr]) (by rw [FabL.rl hA1 hr, FabL.rl hB1 hr]; exact bindS e1 rfl)), (f1.mono (Nat.le_refl _) (by omega)).trans (f2.mono (by omega) (Nat.le_refl _)), fun k hk => ?_, fun k hk => ?_, fun d hd => ?_⟩
  · rw [(f2.2 (ro a r) (by omega)).1]
    exact g3 k (by have : k = 0 ∨ k = 1 ∨ k = 2 ∨ k = 3 ∨ k = 4 ∨ k = 5 := by omega
                   rcases this with e | e | e | e | e | e <;> subst e <;> decide)
  · rw [g5 k hk, (rb 1 (by omega)).1]
  · rw [← (rb 2 (by omega)).1, ← (rb 3 (by omega)).1, ← (rb 4 (by omega)).1, ← (rb 5 (by omega)).2]
    exact g6 d hd
theorem j95 (hA : FabL (mS μ) (mP μ) a) (hB : FabL (mS μ) (mP μ) b) (hd : a + 181 ≤ b ∨ b + 181 ≤ a) (htt : t < 10) (hdd : d < 2) (hu : mI μ (wy b t d) 0 = nI 0 ∨ mI μ (wy b t d) 0 = nI 1) : ∃ ν, s95 μ (wy a t d) (wy b t d) = some ν ∧ Fr (wy a t d) (wy a t d + 6) μ ν ∧ (∀ k, k ≤ 3 → mI ν (wy a t d) k = mI μ (wy b t d) k) ∧ ∀ h j, h < 4 → 1 ≤ j → j ≤ 5 → mI ν (wy a t d + j) h = mI μ (wy b t d + j) h := by
  have ne : ¬ wy b t d = wy a t d := by unfold wy; omega
  have far : ∀ j, j < 6 → wy b t d + j < wy a t d ∨ wy a t d + 6 ≤ wy b t d + j := fun j hj => by unfold wy; omega
  obtain ⟨g1, g2, g3, g4⟩ := fc_spec ne [0, 1, 2, 3] μ
  have f1 := fc_fr (μ := μ) ne [0, 1, 2, 3]
  have e0 : ∀ {R}, (mLoop (s95L18 (wy a t d) (wy b t d)) 1000 (nI 0, fc (wy a t d) (wy b t d) [0, 1, 2, 3] μ)).bind (fun o26 => Sum.elim (fun x27 => some x27) (fun y28 => some y28) o26) = R → s95 μ (wy a t d) (wy b t d) = R := fun {R} hR => by
    unfold s95
    exact iteT (by rw [FabL.ws hB htt hdd]) (iteT (by rw [FabL.ws hA htt hdd]) (iteT hu (bindS rfl (bindS rfl (bindS rfl (bindS rfl hR))))))
  generalize fc (wy a t d) (wy b t d) [0, 1, 2, 3] μ = μ1 at *
  have hA1 : FabL (mS μ1) (mP μ1) a := by rw [f1.S, f1.P]; exact hA
  have hB1 : FabL (mS μ1) (mP μ1) b := by rw [f1.S, f1.P]; exact hB
  obtain ⟨ν, e1, f2, g5⟩ := mLoop_mem (b := s95L18 (wy a t d) (wy b t d)) (μ := μ1) (fun i ν => Fr (wy a t d + 1) (wy a t d + 6) μ1 ν ∧ ∀ h j, h < i → 1 ≤ j → j ≤ 5 → mI ν (wy a t d + j) h = mI μ1 (wy b t d + j) h) 0 4 (fun i ν hi hJ => by
    obtain ⟨f2, g5⟩ := hJ
    have hA : FabL (mS ν) (mP ν) a := by rw [f2.S, f2.P]; exact hA1
    have hB : FabL (mS ν) (mP ν) b := by rw [f2.S, f2.P]; exact hB1
    have rb : ∀ j, j < 6 → mI ν (wy b t d + j) = mI μ1 (wy b t d + j) := fun j hj => (f2.2 _ (by have := far j hj; omega)).1
    have far1 := far 1 (by omega)
    have far2 := far 2 (by omega)
    have far3 := far 3 (by omega)
    have far4 := far 4 (by omega)
    have far5 := far 5 (by omega)
    have mc := m_cl (show i < 2 ^ 31 by omega)
    refine ⟨mUI (mUI (mUI (mUI (mUI ν (wy a t d + 1) i (mI μ1 (wy b t d + 1) i)) (wy a t d + 2) i (mI μ1 (wy b t d + 2) i)) (wy a t d + 3) i (mI μ1 (wy b t d + 3) i)) (wy a t d + 4) i (mI μ1 (wy b t d + 4) i)) (wy a t d + 5) i (mI μ1 (wy b t d + 5) i), ?_, ((((f2.trans (Fr_UI _ (by omega) (by omega) _ _)).trans (Fr_UI _ (by omega) (by omega) _ _)).trans (Fr_UI _ (by omega) (by omega) _ _)).trans (Fr_UI _ (by omega) (by omega) _ _)).trans (Fr_UI _ (by omega) (by omega) _ _), fun h j hh j1 j5 => ?_⟩
    · rw [Nat.zero_add]
      unfold s95L18
      refine iteF (by show ¬ nI 4 ≤ nI i; rw [nI_leI (by omega) (by omega)]; omega) (iteT (by rw [FabL.ws hA htt hdd]) (iteT (by rw [FabL.ws hB htt hdd]) ?_))
      refine ckA (q' := wy b t d + 1) (n := 4) (j := i) (FabL.w4 hB htt hdd) (FabL.v1 hB htt hdd) rfl hi (by omega) ?_
      refine stA (q' := wy a t d + 1) (n := 4) (j := i) (x' := mI μ1 (wy b t d + 1) i) (FabL.w4 hA htt hdd) (FabL.v1 hA htt hdd) rfl hi (by omega) (by rw [FabL.w4 hB htt hdd, mc, rb 1 (by omega)]) ?_
      refine ckA (q' := wy b t d + 2) (n := 4) (j := i) (FabL.w5 hB htt hdd) (FabL.v2 hB htt hdd) rfl hi (by omega) ?_
      refine stA (q' := wy a t d + 2) (n := 4) (j := i) (x' := mI μ1 (wy b t d + 2) i) (FabL.w5 hA htt hdd) (FabL.v2 hA htt hdd) rfl hi (by omega) (by rw [mP_UI, FabL.w5 hB htt hdd, mc, mI_UIr (by omega), rb 2 (by omega)]) ?_
      refine ckA (q' := wy b t d + 3) (n := 4) (j := i) (FabL.w6 hB htt hdd) (FabL.v3 hB htt hdd) rfl hi (by omega) ?_
      refine stA (q' := wy a t d + 3) (n := 4) (j := i) (x' := mI μ1 (wy b t d + 3) i) (FabL.w6 hA htt hdd) (FabL.v3 hA htt hdd) rfl hi (by omega) (by rw [mP_UI, mP_UI, FabL.w6 hB htt hdd, mc, mI_UIr (by omega), mI_UIr (by omega), rb 3 (by omega)]) ?_
      refine ckA (q' := wy b t d + 4) (n := 4) (j := i) (FabL.w7 hB htt hdd) (FabL.v4 hB htt hdd) rfl hi (by omega) ?_
      refine stA (q' := wy a t d + 4) (n := 4) (j := i) (x' := mI μ1 (wy b t d + 4) i) (FabL.w7 hA htt hdd) (FabL.v4 hA htt hdd) rfl hi (by omega) (by rw [mP_UI, mP_UI, mP_UI, FabL.w7 hB htt hdd, mc, mI_UIr (by omega), mI_UIr (by omega), mI_UIr (by omega), rb 4 (by omega)]) ?_
      refine ckA (q' := wy b t d + 5) (n := 4) (j := i) (FabL.w8 hB htt hdd) (FabL.v5 hB htt hdd) rfl hi (by omega) ?_
      refine stA (q' := wy a t d + 5) (n := 4) (j := i) (x' := mI μ1 (wy b t d + 5) i) (FabL.w8 hA htt hdd) (FabL.v5 hA htt hdd) rfl hi (by omega) (by rw [mP_UI, mP_UI, mP_UI, mP_UI, FabL.w8 hB htt hdd, mc, mI_UIr (by omega), mI_UIr (by omega), mI_UIr (by omega), mI_UIr (by omega), rb 5 (by omega)]) ?_
      show some (Sum.inl (nI i + 1, _)) = _
      rw [show nI i + 1 = nI (i + 1) from nI_add _ 1]
    · have hj : j = 1 ∨ j = 2 ∨ j = 3 ∨ j = 4 ∨ j = 5 := by omega
      by_cases y : h = i
      · subst y
        rcases hj with e | e | e | e | e <;> subst e <;> simp [mI_UI]
      · have := g5 h j (by omega) j1 j5
        rcases hj with e | e | e | e | e <;> subst e <;> simp [mI_UI, y] <;> exact this) (fun ν hJ => by
    unfold s95L18
    exact iteT (by show nI 4 ≤ nI (0 + 4); rw [nI_leI (by omega) (by omega)]; omega) rfl) ⟨Fr.refl _ _ _, fun d hd => by omega⟩ (n := 1000) (by omega)
  refine ⟨ν, e0 (bindS e1 rfl), (f1.mono (Nat.le_refl _) (by omega)).trans (f2.mono (by omega) (Nat.le_refl _)), fun k hk => ?_, fun h j hh j1 j5 => ?_⟩
  · rw [(f2.2 (wy a t d) (by omega)).1]
    exact g3 k (by have : k = 0 ∨ k = 1 ∨ k = 2 ∨ k = 3 := by omega
                   rcases this with e | e | e | e <;> subst e <;> decide)
  · rw [g5 h j hh j1 j5, (f1.2 _ (by have := far j (by omega); omega)).1]
theorem j85 (hA : FabL (mS μ) (mP μ) a) (hB : FabL (mS μ) (mP μ) b) (hd : a + 181 ≤ b ∨ b + 181 ≤ a) (htt : t < 10) (ho : mI μ (tu b t) 0 = nI 0 ∨ mI μ (tu b t) 0 = nI 1) (hu : ∀ d, d < 2 → mI μ (wy b t d) 0 = nI 0 ∨ mI μ (wy b t d) 0 = nI 1) : ∃ ν, s85 μ (tu a t) (tu b t) = some ν ∧ Fr (tu a t) (tu a t + 13) μ ν ∧ (∀ k, k ≤ 5 → mI ν (tu a t) k = mI μ (tu b t) k) ∧ ∀ d, d < 2 → (∀ k, k ≤ 3 → mI ν (wy a t d) k = mI μ (wy b t d) k) ∧ ∀ h j, h < 4 → 1 ≤ j → j ≤ 5 → mI ν (wy a t d + j) h = mI μ (wy b t d + j) h := by
  have ne : ¬ tu b t = tu a t := by unfold tu; omega
  have far : ∀ d j, d < 2 → j < 6 → wy b t d + j < tu a t ∨ tu a t + 13 ≤ wy b t d + j := fun d j hd hj => by unfold wy tu; omega
  have wa : ∀ d, d < 2 → tu a t + 1 ≤ wy a t d ∧ wy a t d + 6 ≤ tu a t + 13 := fun d hd => wy_tu hd
  have w01 : wy a t 0 + 6 = wy a t 1 := by unfold wy; omega
  obtain ⟨g1, g2, g3, g4⟩ := fc_spec ne [0, 1, 2, 3, 4, 5] μ
  have f1 := fc_fr (μ := μ) ne [0, 1, 2, 3, 4, 5]
  have e0 : ∀ {R}, (∀ ρ : mM, ρ = fc (tu a t) (tu b t) [0, 1, 2, 3, 4, 5] μ → (if (mS ρ (mP ρ (tu a t) 6)).1 = 7 then (s95 ρ (mP ρ (tu a t) 6) (mP ρ (tu b t) 6)).bind fun q11 => if (mS q11 (tu a t)).1 = 6 then if (mS q11 (tu b t)).1 = 6 then if (mS q11 (mP q11 (tu a t) 7)).1 = 7 then (s95 q11 (mP q11 (tu a t) 7) (mP q11 (tu b t) 7)).bind fun q16 => some q16 else none else none else none else none) = R) → s85 μ (tu a t) (tu b t) = R := fun {R} hR => by
    unfold s85
    exact iteT (by rw [FabL.ts hB htt]) (iteT (by rw [FabL.ts hA htt]) (iteT ho (bindS rfl (bindS rfl (bindS rfl (bindS rfl (bindS rfl (bindS rfl (hR _ rfl)))))))))
  generalize fc (tu a t) (tu b t) [0, 1, 2, 3, 4, 5] μ = μ1 at *
  have hA1 : FabL (mS μ1) (mP μ1) a := by rw [f1.S, f1.P]; exact hA
  have hB1 : FabL (mS μ1) (mP μ1) b := by rw [f1.S, f1.P]; exact hB
  have rb1 : ∀ d j, d < 2 → j < 6 → mI μ1 (wy b t d + j) = mI μ (wy b t d + j) := fun d j hd hj => (f1.2 _ (by have := far d j hd hj; omega)).1
  have rb10 : ∀ d, d < 2 → mI μ1 (wy b t d) = mI μ (wy b t d) := fun d hd => rb1 d 0 hd (by omega)
  obtain ⟨μ2, e1, f2, g5, g6⟩ := j95 (d := 0) hA1 hB1 hd htt (by omega) (by rw [rb10 0 (by omega)]; exact hu 0 (by omega))
  have hA2 : FabL (mS μ2) (mP μ2) a := by rw [f2.S, f2.P]; exact hA1
  have hB2 : FabL (mS μ2) (mP μ2) b := by rw [f2.S, f2.P]; exact hB1
  have wa0 := wa 0 (by omega)
  have wa1 := wa 1 (by omega)
  have rb2 : ∀ d j, d < 2 → j < 6 → mI μ2 (wy b t d + j) = mI μ (wy b t d + j) := fun d j hd hj => by
    rw [(f2.2 _ (by have := far d j hd hj; omega)).1]; exact rb1 d j hd hj
  have rb20 : ∀ d, d < 2 → mI μ2 (wy b t d) = mI μ (wy b t d) := fun d hd => rb2 d 0 hd (by omega)
  obtain ⟨μ3, e2, f3, g7, g8⟩ := j95 (d := 1) hA2 hB2 hd htt (by omega) (by rw [rb20 1 (by omega)]; exact hu 1 (by omega))
  refine ⟨μ3, e0 (fun ρ hρ => ?_), ((f1.mono (Nat.le_refl _) (by omega)).trans (f2.mono (by omega) (by omega))).trans (f3.mono (by omega) (by omega)), fun k hk => ?_, fun d hdd => ?_⟩
  · subst hρ
    exact iteT (by rw [FabL.td hA1 htt, FabL.ws hA1 htt (by omega)]) (bindS (by rw [FabL.td hA1 htt, FabL.td hB1 htt]; exact e1) (iteT (by rw [FabL.ts hA2 htt]) (iteT (by rw [FabL.ts hB2 htt]) (iteT (by rw [FabL.tw hA2 htt, FabL.ws hA2 htt (by omega)]) (bindS (by rw [FabL.tw hA2 htt, FabL.tw hB2 htt]; exact e2) rfl)))))
  · rw [(f3.2 (tu a t) (by omega)).1, (f2.2 (tu a t) (by omega)).1]
    exact g3 k (by have : k = 0 ∨ k = 1 ∨ k = 2 ∨ k = 3 ∨ k = 4 ∨ k = 5 := by omega
                   rcases this with e | e | e | e | e | e <;> subst e <;> decide)
  · have : d = 0 ∨ d = 1 := by omega
    rcases this with e | e <;> subst e
    · refine ⟨fun k hk => ?_, fun h j hh j1 j5 => ?_⟩
      · rw [(f3.2 (wy a t 0) (by omega)).1, g5 k hk, rb10 0 (by omega)]
      · rw [(f3.2 (wy a t 0 + j) (by omega)).1, g6 h j hh j1 j5, rb1 0 j (by omega) (by omega)]
    · refine ⟨fun k hk => ?_, fun h j hh j1 j5 => ?_⟩
      · rw [g7 k hk, rb20 1 (by omega)]
      · rw [g8 h j hh j1 j5, rb2 1 j (by omega) (by omega)]
end CY
