/-! a router added: class and reference; plug -/
section AT
variable {μ μ' : mM} {A A' : Ab} {f r p o k g t d h q : Nat}
/-- the link made anew -/
theorem j52 {a b c : Nat} (hF : FabL (mS μ) (mP μ) f) (hr : r < 8) : ∃ μ', s52 μ (ro f r + 1) (nI a) (nI b) (nI c) = some μ' ∧ Fr (ro f r + 1) (ro f r + 6) μ μ' ∧ (mI μ' (ro f r + 1) 0 = nI a ∧ ∀ j, 1 ≤ j → j ≤ 4 → mI μ' (ro f r + 1) j = nI 0) ∧ (mI μ' (ro f r + 2) 0 = nI b ∧ mI μ' (ro f r + 2) 1 = nI c) ∧ ∀ d, d < 2 → mI μ' (ro f r + 3) d = -nI 1 ∧ mF μ' (ro f r + 5) d = 0 := by
  have fr1 : Fr (ro f r + 1) (ro f r + 6) μ (mUI (mUI (mUI (mUI (mUI (mUI (mUI μ (ro f r + 1) 0 (nI a)) (ro f r + 1) 1 (nI 0)) (ro f r + 1) 2 (nI 0)) (ro f r + 1) 3 (nI 0)) (ro f r + 1) 4 (nI 0)) (ro f r + 2) 0 (nI b)) (ro f r + 2) 1 (nI c)) := by
    refine ((((((Fr_UI _ ?_ ?_ _ _).trans (Fr_UI _ ?_ ?_ _ _)).trans (Fr_UI _ ?_ ?_ _ _)).trans (Fr_UI _ ?_ ?_ _ _)).trans (Fr_UI _ ?_ ?_ _ _)).trans (Fr_UI _ ?_ ?_ _ _)).trans (Fr_UI _ ?_ ?_ _ _) <;> omega
  have v1 : mI (mUI (mUI (mUI (mUI (mUI (mUI (mUI μ (ro f r + 1) 0 (nI a)) (ro f r + 1) 1 (nI 0)) (ro f r + 1) 2 (nI 0)) (ro f r + 1) 3 (nI 0)) (ro f r + 1) 4 (nI 0)) (ro f r + 2) 0 (nI b)) (ro f r + 2) 1 (nI c)) (ro f r + 1) 0 = nI a := by simp [mI_UI]
  have v2 : ∀ j, 1 ≤ j → j ≤ 4 → mI (mUI (mUI (mUI (mUI (mUI (mUI (mUI μ (ro f r + 1) 0 (nI a)) (ro f r + 1) 1 (nI 0)) (ro f r + 1) 2 (nI 0)) (ro f r + 1) 3 (nI 0)) (ro f r + 1) 4 (nI 0)) (ro f r + 2) 0 (nI b)) (ro f r + 2) 1 (nI c)) (ro f r + 1) j = nI 0 := fun j j1 j2 => by
    have : j = 1 ∨ j = 2 ∨ j = 3 ∨ j = 4 := by omega
    rcases this with e | e | e | e <;> subst e <;> simp [mI_UI]
  have v3 : mI (mUI (mUI (mUI (mUI (mUI (mUI (mUI μ (ro f r + 1) 0 (nI a)) (ro f r + 1) 1 (nI 0)) (ro f r + 1) 2 (nI 0)) (ro f r + 1) 3 (nI 0)) (ro f r + 1) 4 (nI 0)) (ro f r + 2) 0 (nI b)) (ro f r + 2) 1 (nI c)) (ro f r + 2) 0 = nI b := by simp [mI_UI]
  have v4 : mI (mUI (mUI (mUI (mUI (mUI (mUI (mUI μ (ro f r + 1) 0 (nI a)) (ro f r + 1) 1 (nI 0)) (ro f r + 1) 2 (nI 0)) (ro f r + 1) 3 (nI 0)) (ro f r + 1) 4 (nI 0)) (ro f r + 2) 0 (nI b)) (ro f r + 2) 1 (nI c)) (ro f r + 2) 1 = nI c := by simp [mI_UI]
  have e0 : ∀ {R}, (mLoop (s52L27 (ro f r + 1)) 1000 (nI 0, mUI (mUI (mUI (mUI (mUI (mUI (mUI μ (ro f r + 1) 0 (nI a)) (ro f r + 1) 1 (nI 0)) (ro f r + 1) 2 (nI 0)) (ro f r + 1) 3 (nI 0)) (ro f r + 1) 4 (nI 0)) (ro f r + 2) 0 (nI b)) (ro f r + 2) 1 (nI c))).bind (fun o19 => Sum.elim (fun x20 => some x20) (fun y21 => some y21) o19) = R → s52 μ (ro f r + 1) (nI a) (nI b) (nI c) = R := fun {R} hR => by
    unfold s52
    refine iteT (by rw [FabL.ls hF hr]) ?_
    refine bindS rfl (bindS rfl (bindS rfl (bindS rfl (bindS rfl ?_))))
    refine stA (q' := ro f r + 2) (n := 2) (j := 0) (x' := nI b) (FabL.l5 hF hr) (FabL.q2 hF hr) rfl (by omega) (by omega) rfl ?_
    refine stA (q' := ro f r + 2) (n := 2) (j := 1) (x' := nI c) (FabL.l5 hF hr) (FabL.q2 hF hr) rfl (by omega) (by omega) rfl ?_
    exact hR
  generalize mUI (mUI (mUI (mUI (mUI (mUI (mUI μ (ro f r + 1) 0 (nI a)) (ro f r + 1) 1 (nI 0)) (ro f r + 1) 2 (nI 0)) (ro f r + 1) 3 (nI 0)) (ro f r + 1) 4 (nI 0)) (ro f r + 2) 0 (nI b)) (ro f r + 2) 1 (nI c) = μ1 at *
  obtain ⟨μ2, e1, g1, g2, g3⟩ := mLoop_mem (b := s52L27 (ro f r + 1)) (μ := μ1) (fun i ν => Fr (ro f r + 3) (ro f r + 6) μ1 ν ∧ (∀ d, d < i → mI ν (ro f r + 3) d = -nI 1) ∧ ∀ d, d < i → mF ν (ro f r + 5) d = 0) 0 2 (fun i ν hi hJ => by
    obtain ⟨g1, g2, g3⟩ := hJ
    have hF : FabL (mS ν) (mP ν) f := by rw [g1.S, g1.P, fr1.S, fr1.P]; exact hF
    refine ⟨mUF (mUI (mUI ν (ro f r + 3) i (-nI 1)) (ro f r + 4) i (nI 0)) (ro f r + 5) i 0, ?_, ((g1.trans (Fr_UI _ (by omega) (by omega) _ _)).trans (Fr_UI _ (by omega) (by omega) _ _)).trans (Fr_UF _ (by omega) (by omega) _ _), fun d hd => ?_, fun d hd => ?_⟩
    · rw [Nat.zero_add]
      unfold s52L27
      refine iteF (by show ¬ nI 2 ≤ nI i; rw [nI_leI (by omega) (by omega)]; omega) (iteT (by show (mS ν (ro f r + 1)).1 = 2; rw [FabL.ls hF hr]) ?_)
      refine stA (q' := ro f r + 3) (n := 2) (j := i) (x' := -nI 1) (FabL.l6 hF hr) (FabL.q3 hF hr) rfl hi (by omega) rfl ?_
      refine stA (q' := ro f r + 4) (n := 2) (j := i) (x' := nI 0) (FabL.l7 hF hr) (FabL.q4 hF hr) rfl hi (by omega) rfl ?_
      refine iteT ?_ ?_
      · show (mS ν (mP ν (ro f r + 1) 8)).1 = 11 ∧ mInb (nI i) (mS ν (mP ν (ro f r + 1) 8)).2
        rw [FabL.l8 hF hr, FabL.q5 hF hr]; exact ⟨rfl, (mInb_iff (by omega)).mpr hi⟩
      · refine bindS (v := mUF (mUI (mUI ν (ro f r + 3) i (-nI 1)) (ro f r + 4) i (nI 0)) (ro f r + 5) i 0) ?_ ?_
        · show some (mUF _ (mP ν (ro f r + 1) 8) (Int32.toNatClampNeg (nI i)) FP.fconst0) = _
          rw [FabL.l8 hF hr, m_cl (by omega)]; rfl
        · show some (Sum.inl (nI i + 1, _)) = _
          rw [show nI i + 1 = nI (i + 1) from nI_add _ 1]
    · rw [mI_UF, mI_UI, if_neg (by omega), mI_UI]
      by_cases y : d = i
      · rw [if_pos ⟨rfl, y⟩]
      · rw [if_neg (fun w => y w.2)]; exact g2 d (by omega)
    · rw [mF_UF]
      by_cases y : d = i
      · rw [if_pos ⟨rfl, y⟩]
      · rw [if_neg (fun w => y w.2)]; exact g3 d (by omega)) (fun ν hJ => by
    unfold s52L27
    exact iteT (by show nI 2 ≤ nI (0 + 2); rw [nI_leI (by omega) (by omega)]; omega) rfl) ⟨Fr.refl _ _ _, fun d hd => by omega, fun d hd => by omega⟩ (n := 1000) (by omega)
  have r1 := (g1.2 (ro f r + 1) (by omega)).1
  have r2 := (g1.2 (ro f r + 2) (by omega)).1
  refine ⟨μ2, e0 (bindS e1 rfl), fr1.trans (g1.mono (by omega) (by omega)), ⟨by rw [r1]; exact v1, fun j j1 j2 => by rw [r1]; exact v2 j j1 j2⟩, ⟨by rw [r2]; exact v3, by rw [r2]; exact v4⟩, fun d hd => ⟨g2 d hd, g3 d hd⟩⟩
theorem j135 (hk : k ≤ 4) (h0 : 0 < portsK k) : s135 μ (nI k) = some (nI (bufK k / portsK k)) := by
  have hp := portsK_le k
  have hb := bufK_le k
  unfold s135
  have h1 : ¬ nI (portsK k) = 0 := by rw [L_0, nI_eq (by omega) (by omega)]; omega
  refine bindS (j133 hk) (iteT h1 (bindS (j134 hk) (iteT h1 ?_)))
  unfold s135_11
  rw [nI_div (by omega) (by omega)]
theorem CS_add (hA : AddOK A r p o k g) (ht : WFt A) (hu : WFu A) (hC : CS μ f A) (hf : Fr (ro f r) (ro f r + 6) μ μ') (v0 : mI μ' (ro f r) 0 = nI 1) (v1 : mI μ' (ro f r) 1 = nI k) (v2 : mI μ' (ro f r) 2 = nI g) (v3 : mI μ' (ro f r) 3 = nI p) (v4 : mI μ' (ro f r) 4 = nI o) (v5 : mI μ' (ro f r) 5 = nI (dep A p + 1)) (v6 : mI μ' (ro f r + 1) 0 = nI (min g (aR A p 2)) ∧ ∀ j, 1 ≤ j → j ≤ 4 → mI μ' (ro f r + 1) j = nI 0) (v7 : mI μ' (ro f r + 2) 0 = nI (bufK k) ∧ mI μ' (ro f r + 2) 1 = nI (bufK (aR A p 1) / portsK (aR A p 1))) (v8 : ∀ d, d < 2 → mI μ' (ro f r + 3) d = -nI 1 ∧ mF μ' (ro f r + 5) d = 0) : CS μ' f (addA A r p o k g) := by
  obtain ⟨hF, h1, h2, h3, h4, h5, h6, h7, h8⟩ := hC
  have pr : ∀ q, aR (addA A r p o k g) q 0 = 1 → ¬ q = r → aR A q 0 = 1 := fun q z y => by rw [add_ne y] at z; exact z
  have rr : ∀ a j, ¬ a = r → j < 6 → mI μ' (ro f a + j) = mI μ (ro f a + j) ∧ mF μ' (ro f a + j) = mF μ (ro f a + j) := fun a j y hj => hf.2 _ (by unfold ro; omega)
  refine ⟨by rw [hf.S, hf.P]; exact hF, ?_, fun a ha => ?_, fun a ha hp => ?_, fun a a1 ha hp => ?_, fun a ha => ?_, fun a ha ho => ?_, fun a b ha ho hb => ?_, fun a b c ha ho hb hc => ?_⟩
  · rw [(hf.2 f (by unfold ro; omega)).1]; exact h1
  · by_cases y : a = r
    · rw [y, v0, add_0]
    · rw [add_ne y]
      have := (rr a 0 y (by omega)).1
      rw [Nat.add_zero] at this
      rw [this]; exact h2 a ha
  · by_cases y : a = r
    · subst y
      rw [v1, v2, v3, v4, v5, add_1, add_2, add_3, add_4, dep_new hA ht]
      exact ⟨rfl, rfl, rfl, rfl, rfl⟩
    · have hp' := pr a hp y
      have := (rr a 0 y (by omega)).1
      rw [Nat.add_zero] at this
      rw [this, add_ne y, add_ne y, add_ne y, add_ne y, dep_add hA ht ha hp']
      exact h3 a ha hp'
  · by_cases y : a = r
    · subst y
      rw [lgen_new hA, v6.1, v6.2 1 (by omega) (by omega), v6.2 2 (by omega) (by omega), v6.2 3 (by omega) (by omega), v6.2 4 (by omega) (by omega), add_k (by omega), add_k (by omega), add_k (by omega), add_k (by omega)]
      refine ⟨⟨rfl, rfl, rfl, rfl, rfl⟩, fun d hd => ?_⟩
      rw [pool_new hA, add_k (by omega), add_L, if_pos rfl, (v8 d hd).1, (v8 d hd).2]
      have : d = 0 ∨ d = 1 := by omega
      rcases this with e | e <;> subst e
      · exact ⟨v7.1, rfl, rfl⟩
      · exact ⟨v7.2, rfl, rfl⟩
    · have hp' := pr a hp y
      rw [(rr a 1 y (by omega)).1, (rr a 2 y (by omega)).1, (rr a 3 y (by omega)).1, (rr a 5 y (by omega)).2, lgen_add hA ht ha hp', add_ne y, add_ne y, add_ne y, add_ne y]
      obtain ⟨z1, z2⟩ := h4 a a1 ha hp'
      refine ⟨z1, fun d hd => ?_⟩
      rw [pool_add hA ht ha hp', add_ne y, add_L, if_neg y]
      exact z2 d hd
  · rw [(hf.2 (tu f a) (by unfold ro tu; have := hA.2.1; omega)).1]; exact h5 a ha
  · rw [(hf.2 (tu f a) (by unfold ro tu; have := hA.2.1; omega)).1]; exact h6 a ha ho
  · rw [(hf.2 (wy f a b) (by unfold ro wy; have := hA.2.1; omega)).1, wN_add hA ht hu ha ho]; exact h7 a b ha ho hb
  · rw [wN_add hA ht hu ha ho] at hc
    have e : ∀ j, mI μ' (wy f a b + j) = mI μ (wy f a b + j) := fun j => (hf.2 _ (by unfold ro wy; have := hA.2.1; omega)).1
    rw [e 1, e 2, e 3, e 4, wP_add hA ht hu ha ho]; exact h8 a b c ha ho hb hc
theorem j25 (hA : AddOK A r p o k g) (hC : CS μ f A) (ht : WFt A) (hu : WFu A) : ∃ μ', s25 μ f (nI r) (nI p) (nI o) (nI k) (nI g) = some μ' ∧ CS μ' f (addA A r p o k g) ∧ FrF f μ μ' := by
  obtain ⟨h1, h2, h3, h4, h5, h6, h7, h8, h9, h10, h11⟩ := id hA
  have hF := hC.1
  have hpr : ¬ ro f p = ro f r := fun z => hA.ne h5 (by unfold ro at z; omega)
  have hkp := kind_le ht h4 h5
  have hgp := gen_le ht h4 h5
  have d5 := RepC.r5 hC.2 h4 h5
  have d1 := RepC.r1 hC.2 h4 h5
  have d2 := RepC.r2 hC.2 h4 h5
  have fr1 : Fr (ro f r) (ro f r + 6) μ (mUI (mUI (mUI (mUI (mUI (mUI μ (ro f r) 0 (nI 1)) (ro f r) 1 (nI k)) (ro f r) 2 (nI g)) (ro f r) 3 (nI p)) (ro f r) 4 (nI o)) (ro f r) 5 (nI (dep A p + 1))) := by
    refine (((((Fr_UI _ ?_ ?_ _ _).trans (Fr_UI _ ?_ ?_ _ _)).trans (Fr_UI _ ?_ ?_ _ _)).trans (Fr_UI _ ?_ ?_ _ _)).trans (Fr_UI _ ?_ ?_ _ _)).trans (Fr_UI _ ?_ ?_ _ _) <;> omega
  have v0 : mI (mUI (mUI (mUI (mUI (mUI (mUI μ (ro f r) 0 (nI 1)) (ro f r) 1 (nI k)) (ro f r) 2 (nI g)) (ro f r) 3 (nI p)) (ro f r) 4 (nI o)) (ro f r) 5 (nI (dep A p + 1))) (ro f r) 0 = nI 1 := by simp [mI_UI]
  have v1 : mI (mUI (mUI (mUI (mUI (mUI (mUI μ (ro f r) 0 (nI 1)) (ro f r) 1 (nI k)) (ro f r) 2 (nI g)) (ro f r) 3 (nI p)) (ro f r) 4 (nI o)) (ro f r) 5 (nI (dep A p + 1))) (ro f r) 1 = nI k := by simp [mI_UI]
  have v2 : mI (mUI (mUI (mUI (mUI (mUI (mUI μ (ro f r) 0 (nI 1)) (ro f r) 1 (nI k)) (ro f r) 2 (nI g)) (ro f r) 3 (nI p)) (ro f r) 4 (nI o)) (ro f r) 5 (nI (dep A p + 1))) (ro f r) 2 = nI g := by simp [mI_UI]
  have v3 : mI (mUI (mUI (mUI (mUI (mUI (mUI μ (ro f r) 0 (nI 1)) (ro f r) 1 (nI k)) (ro f r) 2 (nI g)) (ro f r) 3 (nI p)) (ro f r) 4 (nI o)) (ro f r) 5 (nI (dep A p + 1))) (ro f r) 3 = nI p := by simp [mI_UI]
  have v4 : mI (mUI (mUI (mUI (mUI (mUI (mUI μ (ro f r) 0 (nI 1)) (ro f r) 1 (nI k)) (ro f r) 2 (nI g)) (ro f r) 3 (nI p)) (ro f r) 4 (nI o)) (ro f r) 5 (nI (dep A p + 1))) (ro f r) 4 = nI o := by simp [mI_UI]
  have v5 : mI (mUI (mUI (mUI (mUI (mUI (mUI μ (ro f r) 0 (nI 1)) (ro f r) 1 (nI k)) (ro f r) 2 (nI g)) (ro f r) 3 (nI p)) (ro f r) 4 (nI o)) (ro f r) 5 (nI (dep A p + 1))) (ro f r) 5 = nI (dep A p + 1) := by simp [mI_UI]
  have w1 : mI (mUI (mUI (mUI (mUI (mUI (mUI μ (ro f r) 0 (nI 1)) (ro f r) 1 (nI k)) (ro f r) 2 (nI g)) (ro f r) 3 (nI p)) (ro f r) 4 (nI o)) (ro f r) 5 (nI (dep A p + 1))) (ro f p) 1 = nI (aR A p 1) := by simp [mI_UI, hpr]; exact d1
  have w2 : mI (mUI (mUI (mUI (mUI (mUI (mUI μ (ro f r) 0 (nI 1)) (ro f r) 1 (nI k)) (ro f r) 2 (nI g)) (ro f r) 3 (nI p)) (ro f r) 4 (nI o)) (ro f r) 5 (nI (dep A p + 1))) (ro f p) 2 = nI (aR A p 2) := by simp [mI_UI, hpr]; exact d2
  have e0 : ∀ {R}, (∀ ν : mM, ν = mUI (mUI (mUI (mUI (mUI (mUI μ (ro f r) 0 (nI 1)) (ro f r) 1 (nI k)) (ro f r) 2 (nI g)) (ro f r) 3 (nI p)) (ro f r) 4 (nI o)) (ro f r) 5 (nI (dep A p + 1)) → (s134 ν (nI k)).bind (fun q14 => (s135 ν (mI ν (ro f p) 1)).bind fun q16 => if (mS ν (mP ν (ro f r) 6)).1 = 2 then (s52 ν (mP ν (ro f r) 6) (mMin (nI g) (mI ν (ro f p) 2)) q14 q16).bind fun q19 => some q19 else none) = R) → s25 μ f (nI r) (nI p) (nI o) (nI k) (nI g) = R := fun {R} hR => by
    unfold s25
    refine iteT (by rw [FabL.s0 hF]) (bindS (j18 hF h4) (bindS (j18 hF h2) (iteT (by rw [FabL.rs hF h2]) ?_)))
    refine bindS rfl (bindS rfl (bindS rfl (bindS rfl (bindS rfl ?_))))
    refine iteT (by show (mS μ (ro f p)).1 = 4; rw [FabL.rs hF h4]) ?_
    refine bindS ?_ (hR _ rfl)
    congr 2
    rw [show mI (mUI (mUI (mUI (mUI (mUI μ (ro f r) 0 1) (ro f r) 1 (nI k)) (ro f r) 2 (nI g)) (ro f r) 3 (nI p)) (ro f r) 4 (nI o)) (ro f p) 5 = nI (dep A p) by simp [mI_UI, hpr]; exact d5]
    exact nI_add _ 1
  generalize hμ1 : mUI (mUI (mUI (mUI (mUI (mUI μ (ro f r) 0 (nI 1)) (ro f r) 1 (nI k)) (ro f r) 2 (nI g)) (ro f r) 3 (nI p)) (ro f r) 4 (nI o)) (ro f r) 5 (nI (dep A p + 1)) = μ1 at *
  have hF1 : FabL (mS μ1) (mP μ1) f := by rw [fr1.S, fr1.P]; exact hF
  obtain ⟨μ2, e2, g1, g2, g3, g4⟩ := j52 (a := min g (aR A p 2)) (b := bufK k) (c := bufK (aR A p 1) / portsK (aR A p 1)) hF1 h2
  have r0 := (g1.2 (ro f r) (by omega)).1
  have fr2 : Fr (ro f r) (ro f r + 6) μ μ2 := fr1.trans (g1.mono (by omega) (Nat.le_refl _))
  refine ⟨μ2, e0 (fun ν hν => ?_), CS_add hA ht hu hC fr2 (by rw [r0]; exact v0) (by rw [r0]; exact v1) (by rw [r0]; exact v2) (by rw [r0]; exact v3) (by rw [r0]; exact v4) (by rw [r0]; exact v5) g2 g3 g4, ⟨fr2.mono (by unfold ro; omega) (by unfold ro; omega), fun a d ha hd => (fr2.2 _ (by unfold ro wy; omega)).1, fun hB => ?_⟩⟩
  · subst hν
    refine bindS (j134 (by omega)) ?_
    rw [w1, w2]
    refine bindS (j135 hkp (by omega)) (iteT (by rw [FabL.rl hF1 h2, FabL.ls hF1 h2]) ?_)
    rw [FabL.rl hF1 h2, mMin_nI (by omega) (by omega)]
    exact bindS e2 rfl
  · refine ⟨fun a ha => ?_, fun a d ha hd => ?_⟩
    · by_cases y : a = r
      · rw [y]; exact Or.inl (g2.2 1 (by omega) (by omega))
      · rw [(fr2.2 (ro f a + 1) (by unfold ro; omega)).1]; exact hB.1 a ha
    · rw [(fr2.2 (wy f a d) (by unfold ro wy; omega)).1]; exact hB.2 a d ha hd
theorem RepM.cgR {I : Nat → Int32} {F : Nat → UInt32} (h : RepM I F A) (h1 : ∀ r k, r < 8 → k < 11 → aR A' r k = aR A r k) (h2 : ∀ r d, r < 8 → d < 2 → aL A' r d = aL A r d) (h3 : A'.2.1 = A.2.1) (h4 : A'.2.2.1 = A.2.2.1) (h5 : A'.2.2.2.1 = A.2.2.2.1) : RepM I F A' := by
  obtain ⟨q1, q2, q3, q4, q5, q6, q7⟩ := h
  refine ⟨fun r k hr hk => by rw [h1 r k hr (by omega)]; exact q1 r k hr hk, fun t k a b => ?_, fun t d k a b c => ?_, fun t d h k a b c e => ?_, fun r d hr hd => by rw [h1 r (9 + d) hr (by omega)]; exact q5 r d hr hd, fun k a => ?_, fun r d hr hd => by rw [h2 r d hr hd]; exact q7 r d hr hd⟩
  · show _ = nI (A'.2.1 t k); rw [h3]; exact q2 t k a b
  · show _ = nI (A'.2.2.1 t d 4 k); rw [h4]; exact q3 t d k a b c
  · show _ = nI (A'.2.2.1 t d h k); rw [h4]; exact q4 t d h k a b c e
  · show _ = nI (A'.2.2.2.1 k); rw [h5]; exact q6 k a
theorem k180 (hM : RS μ A) (hr : r < 8) : ∃ μ', s180 μ 200 (nI r) (nI p) (nI o) (nI k) (nI g) = some μ' ∧ RS μ' (addA A r p o k g) ∧ Fr 201 203 μ μ' := by
  have e0 := k149 (v := 1) hM hr (k := 0) (by omega)
  have m0 := RS.uR (v := 1) (k := 0) hM hr (by omega)
  have f0 : Fr 201 203 μ (mUI μ 201 (9 * r + 0) (nI 1)) := Fr_UI _ (by omega) (by omega) _ _
  generalize mUI μ 201 (9 * r + 0) (nI 1) = μ0 at *
  have e1 := k149 (v := k) m0 hr (k := 1) (by omega)
  have m1 := RS.uR (v := k) (k := 1) m0 hr (by omega)
  have f1 : Fr 201 203 μ0 (mUI μ0 201 (9 * r + 1) (nI k)) := Fr_UI _ (by omega) (by omega) _ _
  generalize mUI μ0 201 (9 * r + 1) (nI k) = μ1 at *
  have e2 := k149 (v := g) m1 hr (k := 2) (by omega)
  have m2 := RS.uR (v := g) (k := 2) m1 hr (by omega)
  have f2 : Fr 201 203 μ1 (mUI μ1 201 (9 * r + 2) (nI g)) := Fr_UI _ (by omega) (by omega) _ _
  generalize mUI μ1 201 (9 * r + 2) (nI g) = μ2 at *
  have e3 := k149 (v := p) m2 hr (k := 3) (by omega)
  have m3 := RS.uR (v := p) (k := 3) m2 hr (by omega)
  have f3 : Fr 201 203 μ2 (mUI μ2 201 (9 * r + 3) (nI p)) := Fr_UI _ (by omega) (by omega) _ _
  generalize mUI μ2 201 (9 * r + 3) (nI p) = μ3 at *
  have e4 := k149 (v := o) m3 hr (k := 4) (by omega)
  have m4 := RS.uR (v := o) (k := 4) m3 hr (by omega)
  have f4 : Fr 201 203 μ3 (mUI μ3 201 (9 * r + 4) (nI o)) := Fr_UI _ (by omega) (by omega) _ _
  generalize mUI μ3 201 (9 * r + 4) (nI o) = μ4 at *
  obtain ⟨μ5, e5, B, m5, b1, b2, b3, f5⟩ := mLoop_mem (b := s180L27 200 (nI r)) (μ := μ4) (fun i ν => ∃ B : Ab, RS ν B ∧ B.2 = A.2 ∧ (∀ a b, ¬ a = r → aR B a b = aR A a b) ∧ (∀ b, (b < 5 + i ∨ 9 ≤ b) → aR B r b = if b < 9 then aR (addA A r p o k g) r b else aR A r b) ∧ Fr 201 203 μ4 ν) 5 4 (fun i ν hi hJ => by
    obtain ⟨B, m5, b1, b2, b3, f5⟩ := hJ
    have q1 := k149 (v := 0) m5 hr (k := 5 + i) (by omega)
    refine ⟨mUI ν 201 (9 * r + (5 + i)) (nI 0), ?_, setR B r (5 + i) 0, RS.uR (k := 5 + i) m5 hr (by omega), b1, fun a b y => ?_, fun b hb => ?_, f5.trans (Fr_UI _ (by omega) (by omega) _ _)⟩
    · unfold s180L27
      refine iteF (by show ¬ nI 9 ≤ nI (5 + i); rw [nI_leI (by omega) (by omega)]; omega) (iteT (by rw [RefL.s m5.1]) (bindS q1 ?_))
      show some (Sum.inl (nI (5 + i) + 1, _)) = _
      rw [show nI (5 + i) + 1 = nI (5 + i + 1) from nI_add _ 1]
    · rw [aR_setR, if_neg (fun w => y w.1)]; exact b2 a b y
    · rw [aR_setR]
      by_cases y : b = 5 + i
      · rw [if_pos ⟨rfl, y⟩, if_pos (by omega), add_k (by omega)]
      · rw [if_neg (fun w => y w.2)]; exact b3 b (by omega)) (fun ν hJ => by
    unfold s180L27
    exact iteT (by show nI 9 ≤ nI (5 + 4); rw [nI_leI (by omega) (by omega)]; omega) rfl) ⟨_, m4, rfl, fun a b y => by
      rw [aR_setR, if_neg (fun w => y w.1), aR_setR, if_neg (fun w => y w.1), aR_setR, if_neg (fun w => y w.1), aR_setR, if_neg (fun w => y w.1), aR_setR, if_neg (fun w => y w.1)], fun b hb => by
      rw [aR_setR, aR_setR, aR_setR, aR_setR, aR_setR]
      by_cases c9 : b < 9
      · rw [if_pos c9]
        have : b = 0 ∨ b = 1 ∨ b = 2 ∨ b = 3 ∨ b = 4 := by omega
        rcases this with e | e | e | e | e <;> subst e
        · rw [add_0]; simp
        · rw [add_1]; simp
        · rw [add_2]; simp
        · rw [add_3]; simp
        · rw [add_4]; simp
      · rw [if_neg c9, if_neg (by omega), if_neg (by omega), if_neg (by omega), if_neg (by omega), if_neg (by omega)], Fr.refl _ _ _⟩ (n := 1000) (by omega)
  obtain ⟨μ6, e6, B', m6, c1, c2, c3, c4, c5, c6, f6⟩ := mLoop_mem (b := s180L39 200 (nI r)) (μ := μ5) (fun i ν => ∃ B : Ab, RS ν B ∧ B.2.1 = A.2.1 ∧ B.2.2.1 = A.2.2.1 ∧ B.2.2.2.1 = A.2.2.2.1 ∧ (∀ a b, ¬ a = r → aR B a b = aR A a b ∧ aL B a b = aL A a b) ∧ (∀ b, (b < 9 + i) → aR B r b = aR (addA A r p o k g) r b) ∧ (∀ d, d < i → aL B r d = 0) ∧ Fr 201 203 μ5 ν) 0 2 (fun i ν hi hJ => by
    obtain ⟨B, m6, c1, c2, c3, c4, c5, c6, f6⟩ := hJ
    have hR := m6.1
    have m7 := RS.uP (v := 0) (d := i) (RS.uL (x := 0) (d := i) m6 hr hi) hr hi
    refine ⟨mUI (mUF ν 202 (2 * r + i) 0) 201 (412 + 2 * r + i) (nI 0), ?_, setR (setL B r i 0) r (9 + i) 0, m7, c1, c2, c3, fun a b y => ⟨?_, ?_⟩, fun b hb => ?_, fun d hd => ?_, (f6.trans (Fr_UF _ (by omega) (by omega) _ _)).trans (Fr_UI _ (by omega) (by omega) _ _)⟩
    · rw [Nat.zero_add]
      unfold s180L39
      refine iteF (by show ¬ nI 2 ≤ nI i; rw [nI_leI (by omega) (by omega)]; omega) (iteT (by rw [RefL.s hR]) (iteT ?_ ?_))
      · show (mS ν (mP ν 200 1)).1 = 11 ∧ mInb (nI 2 * nI r + nI i) (mS ν (mP ν 200 1)).2
        rw [RefL.r1 hR, RefL.a1 hR, nI_mul, nI_add]; exact ⟨rfl, (mInb_iff (by omega)).mpr (by omega)⟩
      · refine bindS (v := mUF ν 202 (2 * r + i) 0) ?_ ?_
        · show some (mUF ν (mP ν 200 1) (Int32.toNatClampNeg (nI 2 * nI r + nI i)) FP.fconst0) = _
          rw [RefL.r1 hR, nI_mul, nI_add, m_cl (by omega)]; rfl
        · refine stA (q' := 201) (n := 433) (j := 412 + 2 * r + i) (x' := nI 0) (RefL.r0 hR) (RefL.a0 hR) ?_ (by omega) (by omega) rfl ?_
          · show nI 412 + nI 2 * nI r + nI i = _
            rw [nI_mul, nI_add, nI_add]
          · show some (Sum.inl (nI i + 1, _)) = _
            rw [show nI i + 1 = nI (i + 1) from nI_add _ 1]
    · rw [aR_setR, if_neg (fun w => y w.1)]; exact (c4 a b y).1
    · show aL (setL B r i 0) a b = _
      rw [aL_setL, if_neg (fun w => y w.1)]; exact (c4 a b y).2
    · rw [aR_setR]
      by_cases y : b = 9 + i
      · rw [if_pos ⟨rfl, y⟩, add_k (by omega)]
      · rw [if_neg (fun w => y w.2)]; exact c5 b (by omega)
    · show aL (setL B r i 0) r d = _
      rw [aL_setL]
      by_cases y : d = i
      · rw [if_pos ⟨rfl, y⟩]
      · rw [if_neg (fun w => y w.2)]; exact c6 d (by omega)) (fun ν hJ => by
    unfold s180L39
    exact iteT (by show nI 2 ≤ nI (0 + 2); rw [nI_leI (by omega) (by omega)]; omega) rfl) ⟨B, m5, by rw [b1], by rw [b1], by rw [b1], fun a b y => ⟨b2 a b y, by show B.2.2.2.2 a b = _; rw [b1]⟩, fun b hb => by rw [b3 b (by omega), if_pos (by omega)], fun d hd => by omega, Fr.refl _ _ _⟩ (n := 1000) (by omega)
  refine ⟨μ6, ?_, ⟨m6.1, m6.2.cgR (fun a b ha hb => ?_) (fun a d ha hd => ?_) c1.symm c2.symm c3.symm⟩, (((((f0.trans f1).trans f2).trans f3).trans f4).trans f5).trans f6⟩
  · unfold s180
    refine iteT (by rw [RefL.s hM.1]) (bindS e0 (iteT (by rw [RefL.s m0.1]) (bindS e1 (iteT (by rw [RefL.s m1.1]) (bindS e2 (iteT (by rw [RefL.s m2.1]) (bindS e3 (iteT (by rw [RefL.s m3.1]) (bindS e4 (bindS e5 ?_))))))))))
    exact bindS e6 rfl
  · by_cases y : a = r
    · rw [y]; exact (c5 b (by omega)).symm
    · rw [add_ne y]; exact (c4 a b y).1.symm
  · rw [add_L]
    by_cases y : a = r
    · rw [if_pos y, y]; exact (c6 d hd).symm
    · rw [if_neg y]; exact (c4 a d y).2.symm
end AT
