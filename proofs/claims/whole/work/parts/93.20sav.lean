/-! save and restore, handed to the law -/
section SW
variable {μ ν : mM} {A : Ab} {i g : Nat} {L : Nat} {xs : Nat → Int32}
theorem CI_opS {c d : mM → Option (Int32 × mM)} (H : ∀ μ A, St μ A → SZ (mI μ) 11 A → SlotsOK μ → BZ (mI μ) 11 → ∃ v μ1 μ2 A', c μ = some (v, μ1) ∧ FrC μ μ1 ∧ CS μ1 11 A' ∧ SZ (mI μ1) 11 A' ∧ d μ1 = some (v, μ2) ∧ FrR μ1 μ2 ∧ RS μ2 A' ∧ WFt A' ∧ WFu A') : CI (Inv L xs) c d := by
  intro μ hI
  obtain ⟨⟨i1, i2⟩, ⟨A, hS, hZ⟩, hT, hsl, hBZ⟩ := hI
  obtain ⟨v, μ1, μ2, A', h1, ⟨h2, h2b⟩, h3, h4, h5, h6, h7, h8, h9⟩ := H μ A hS hZ hsl hBZ
  obtain ⟨hK, hC, hM, ht, hu⟩ := hS
  have q1 : mS μ1 = mS μ := h2.S
  have q2 : mS μ2 = mS μ1 := by show μ2.2.2.2.2.1 = _; rw [h6.1]
  have p1 : mP μ1 = mP μ := h2.P
  have p2 : mP μ2 = mP μ1 := by show μ2.2.2.2.1 = _; rw [h6.1]
  have row : ∀ q, (q < 11 ∨ (203 ≤ q ∧ q < 213) ∨ 219 ≤ q ∨ q = 200) → mI μ2 q = mI μ q ∧ mF μ2 q = mF μ q := fun q hq => ⟨((h6.2 q (by omega)).1).trans (h2.2 q (by omega)).1, ((h6.2 q (by omega)).2).trans (h2.2 q (by omega)).2⟩
  refine ⟨v, μ1, μ2, h1, ⟨by rw [q1], (h2.2 1 (by omega)).1, by rw [q1]; rw [RefL.s hM.1]⟩, h5, ⟨by rw [q2, q1]; exact i1, by rw [(row 1 (by omega)).1]; exact i2⟩, ⟨A', ⟨by rw [q2, q1, p2, p1]; exact hK, h6.cs h3, h7, h8, h9⟩, ?_⟩, ?_, hsl.cg (h6.1.trans h2.1) (fun q hq => row q (by omega)), (h2b hBZ).cg (fun r hr => by rw [(h6.2 _ (by unfold ro; omega)).1]) (fun t d a b => by rw [(h6.2 _ (by unfold wy; omega)).1])⟩
  · intro t d k a b e g
    rw [(h6.2 _ (by unfold wy; omega)).1]; exact h4 t d k a b e g
  · unfold TextOK at *
    rw [(row 3 (by omega)).1, (row 200 (by omega)).1, (row 4 (by omega)).1, (row 206 (by omega)).1]
    exact hT
theorem SlotsOK.at (h : SlotsOK μ) (hi : i < 2) : SlotOK μ i := by
  have : i = 0 ∨ i = 1 := by omega
  rcases this with e | e <;> subst e
  · exact h.1.1
  · exact h.1.2
theorem op29 : Op29 (Inv L xs) := fun x => CI_opS fun μ A hS hZ hsl hB => by
  obtain ⟨hK, hC, hM, ht, hu⟩ := hS
  have hR := hM.1
  rcases btw μ x 0 1 (by omega) (by omega) with ⟨i, rfl, -, hi, l1, l2⟩ | ⟨-, l1, l2⟩
  · have mc := m_cl (show i < 2 ^ 31 by omega)
    rcases hsl.at (i := i) (by omega) with ⟨z1, z2⟩ | ⟨z1, z2, z3, z4, z5, B, z6, z7, z8, z9, z10⟩
    · refine ⟨-8, μ, μ, A, ?_, FrC.refl _, hC, hZ, ?_, FrR.refl _, hM, ht, hu⟩
      · unfold s126
        exact bindS l1 (iteT (show ¬ nI 1 = 0 by decide) (iteT (by rw [ClsL.s hK]) (iteT (by rw [ClsL.p2 hK, ClsL.s192 hK]; exact ⟨rfl, (mInb_iff (by omega)).mpr (by omega)⟩) (iteF (by rw [ClsL.p2 hK, mc, z1]; simp) rfl))))
      · unfold s237
        exact bindS l2 (iteT (show ¬ nI 1 = 0 by decide) (iteT (by rw [RefL.s hR]) (iteT (by rw [RefL.r4 hR, RefL.a4 hR]; exact ⟨rfl, (mInb_iff (by omega)).mpr (by omega)⟩) (iteF (by rw [RefL.r4 hR, mc, z2]; decide) rfl))))
    · obtain ⟨ν, e1, f1, g1⟩ := j13 (a := 11) (b := mP μ 192 i) hC.1 z4 (by omega) (Flg_of z6 z9 z10 z5)
      have hw := WN.of z9 z10
      have hC1 : CS ν 11 B := ⟨by rw [f1.S, f1.P]; exact hC.1, Cp_RepC g1 z6 hw⟩
      have hM1 : RS ν A := hM.fr f1 (by omega)
      obtain ⟨ν2, e2, h2, f2⟩ := k237 (i := i) (A := B) hM1 (by rw [(f1.2 205 (by omega)).1]; exact z1) (by rw [(f1.2 203 (by omega)).1, (f1.2 204 (by omega)).2]; exact z8) z10 (by omega)
      refine ⟨_, ν, ν2, B, ?_, ⟨f1.mono (by omega) (by omega), fun _ => Cp_BZ g1 z5⟩, hC1, Cp_SZ g1 z7 hw, e2, f2.R (by omega), h2, z9, z10⟩
      have hK1 := hK.fr f1
      unfold s126
      refine bindS l1 (iteT (show ¬ nI 1 = 0 by decide) (iteT (by rw [ClsL.s hK]) (iteT (by rw [ClsL.p2 hK, ClsL.s192 hK]; exact ⟨rfl, (mInb_iff (by omega)).mpr (by omega)⟩) (iteT (by rw [ClsL.p2 hK, mc]; omega) (iteT (by rw [ClsL.p1 hK, FabL.s0 hC.1]) (bindS (v := ν) ?_ (iteT (by rw [ClsL.s hK1]) (iteT (by rw [ClsL.p1 hK1, FabL.s0 hC1.1]) (bindS (v := _) ?_ rfl)))))))))
      · rw [ClsL.p1 hK, ClsL.p2 hK, mc]; exact e1
      · rw [ClsL.p1 hK1]; exact j20 hC1 z10
  · refine ⟨-1, μ, μ, A, ?_, FrC.refl _, hC, hZ, ?_, FrR.refl _, hM, ht, hu⟩
    · unfold s126
      exact bindS l1 (iteF (show ¬ ¬ nI 0 = 0 by decide) rfl)
    · unfold s237
      exact bindS l2 (iteF (show ¬ ¬ nI 0 = 0 by decide) rfl)
/-- all but the slots -/
def Pre (L : Nat) (xs : Nat → Int32) (μ : mM) (A : Ab) : Prop := (mS μ 1 = (98, L) ∧ mI μ 1 = xs) ∧ (St μ A ∧ SZ (mI μ) 11 A) ∧ TextOK μ ∧ BZ (mI μ) 11
theorem Pre_cg (h : Pre L xs μ A) (r1 : ∀ q, q < 203 ∨ q = 206 → mI ν q = mI μ q ∧ mF ν q = mF μ q) (r2 : ∀ q, q < 219 → mS ν q = mS μ q) (r3 : ∀ q, q < 219 → ¬ q = 192 → mP ν q = mP μ q) : Pre L xs ν A := by
  obtain ⟨⟨a1, a2⟩, ⟨⟨hK, hC, hM, ht, hu⟩, hZ⟩, hT, hB⟩ := h
  refine ⟨⟨by rw [r2 1 (by omega)]; exact a1, by rw [(r1 1 (by omega)).1]; exact a2⟩, ⟨⟨ClsL_cg hK (fun q hq => r2 q (by omega)) (fun q hq hn => r3 q (by omega) hn), ⟨hC.1.congr (fun q x y => r2 q (by omega)) (fun q x y => r3 q (by omega) (by omega)), hC.2.congr (fun q x y => (r1 q (by omega)).1) (fun q x y => (r1 q (by omega)).2)⟩, ⟨RefL_cg hM.1 (fun q x y => r2 q (by omega)) (r3 200 (by omega) (by omega)), by rw [(r1 201 (by omega)).1, (r1 202 (by omega)).2]; exact hM.2⟩, ht, hu⟩, ?_⟩, ?_, hB.cg (fun r hr => by rw [(r1 _ (by unfold ro; omega)).1]) (fun t d a b => by rw [(r1 _ (by unfold wy; omega)).1])⟩
  · intro t d k a b e g
    rw [(r1 _ (by unfold wy; omega)).1]; exact hZ t d k a b e g
  · unfold TextOK at *
    rw [(r1 3 (by omega)).1, (r1 200 (by omega)).1, (r1 4 (by omega)).1, (r1 206 (by omega)).1]
    exact hT
theorem sav (hi : i < 2) (h : Pre L xs ν A) (hg : mP ν 192 i = g) (g1 : 219 ≤ g) (g2 : g + 181 ≤ mNx ν) (hF : FabL (mS ν) (mP ν) g) (ho : ∀ j, j < 2 → ¬ j = i → SlotOK ν j ∧ (mP ν 192 j = 0 ∨ g + 181 ≤ mP ν 192 j ∨ mP ν 192 j + 181 ≤ g)) (b1 : mNx ν ≤ 219 + 181 * (nSl ν 0 + nSl ν 1)) (b2 : mSl ν ≤ 20000 + 20000 * (nSl ν 0 + nSl ν 1)) : ∃ v μ1 μ2, s125_23 2 (nI i) ν g = some (v, μ1) ∧ (mS μ1 1 = mS ν 1 ∧ mI μ1 1 = mI ν 1 ∧ (mS μ1 200).1 = 9) ∧ s236 μ1 200 (nI i) = some (v, μ2) ∧ Inv L xs μ2 := by
  have hP := h
  obtain ⟨⟨a1, a2⟩, ⟨⟨hK, hC, hM, ht, hu⟩, hZ⟩, hT, hB⟩ := h
  have hw := WN.of ht hu
  obtain ⟨μ1, e1, f1, c1⟩ := j13 (a := g) (b := 11) hF hC.1 (by omega) (Flg_of hC.2 ht hu hB)
  have hK1 := hK.fr f1
  have hC1 : CS μ1 11 A := hC.fr f1 (by omega)
  have hM1 : RS μ1 A := hM.fr f1 (by omega)
  obtain ⟨μ2, e2, s2, r2, x3, x4, x5⟩ := k236 (i := i) hM1 hu hi
  have eS : mS μ2 = mS ν := by rw [← f1.S]; show μ2.2.2.2.2.1 = _; rw [s2]
  have eP : mP μ2 = mP ν := by rw [← f1.P]; show μ2.2.2.2.1 = _; rw [s2]
  have eN : mNx μ2 = mNx ν := by show μ2.2.2.2.2.2.1 = _; rw [s2, f1.1]
  have eL : mSl μ2 = mSl ν := by show μ2.2.2.2.2.2.2 = _; rw [s2, f1.1]
  have rr : ∀ q, q < 203 ∨ 206 ≤ q → ¬ (g ≤ q ∧ q < g + 181) → mI μ2 q = mI ν q ∧ mF μ2 q = mF ν q := fun q a b => ⟨((r2 q (by omega)).1).trans (f1.2 q (by omega)).1, ((r2 q (by omega)).2).trans (f1.2 q (by omega)).2⟩
  have hP2 : Pre L xs μ2 A := Pre_cg hP (fun q hq => rr q (by omega) (by omega)) (fun q _ => by rw [eS]) (fun q _ _ => by rw [eP])
  have oi : SlotOK μ2 i := by
    refine Or.inr ⟨by rw [x5, if_pos rfl], by rw [eP, hg]; exact g1, by rw [eP, hg, eN]; exact g2, by rw [eP, hg, eS]; exact hF, ?_, A, ?_, ?_, ?_, ht, hu⟩
    · rw [eP, hg]
      exact (Cp_BZ c1 hB).cg (fun r hr => by rw [(r2 _ (by unfold ro; omega)).1]) (fun t d a b => by rw [(r2 _ (by unfold wy; omega)).1])
    · rw [eP, hg]
      exact (Cp_RepC c1 hC.2 hw).congr (fun q x y => (r2 q (by omega)).1) (fun q x y => (r2 q (by omega)).2)
    · rw [eP, hg]
      have := Cp_SZ c1 hZ hw
      intro t d k x y z w
      rw [(r2 _ (by unfold wy; omega)).1]; exact this t d k x y z w
    · exact hM1.2.cgI (fun k hk => by rw [x3, if_pos (by omega)]; congr 1; omega) (fun k hk => by rw [x4, if_pos (by omega)]; congr 1; omega)
  have oj : ∀ j, j < 2 → ¬ j = i → SlotOK μ2 j := fun j hj hn => by
    obtain ⟨o1, o2⟩ := ho j hj hn
    refine SlotOK_tr o1 (by rw [eP]) (by rw [x5, if_neg hn, (f1.2 205 (by omega)).1]) (fun k hk => by rw [x3, if_neg (by omega), (f1.2 203 (by omega)).1]) (fun k hk => by rw [x4, if_neg (by omega), (f1.2 204 (by omega)).2]) (by rw [eN]; omega) (fun q y1 y2 y3 y4 => ?_)
    have := rr q (by omega) (by omega)
    exact ⟨this.1, this.2, by rw [eS], by rw [eP]⟩
  refine ⟨_, μ1, μ2, ?_, ⟨by rw [f1.S], (f1.2 1 (by omega)).1, by rw [f1.S, RefL.s hM.1]⟩, e2, hP2.1, ⟨A, hP2.2.1⟩, hP2.2.2.1, ?_, hP2.2.2.2⟩
  · unfold s125_23
    refine iteT (by rw [ClsL.s hK]) (iteT (by rw [FabL.s0 hF]) (bindS (v := μ1) ?_ (iteT (by rw [ClsL.s hK1]) (iteT (by rw [ClsL.p1 hK1, FabL.s0 hC1.1]) (bindS (v := _) ?_ rfl)))))
    · rw [ClsL.p1 hK]; exact e1
    · rw [ClsL.p1 hK1]; exact j20 hC1 hu
  · unfold SlotsOK nSl
    unfold nSl at b1 b2
    rw [eP, eN, eL]
    have : i = 0 ∨ i = 1 := by omega
    rcases this with e | e <;> subst e
    · have := (ho 1 (by omega) (by omega)).2
      exact ⟨⟨oi, oj 1 (by omega) (by omega)⟩, by omega, by omega, b1, b2⟩
    · have := (ho 0 (by omega) (by omega)).2
      exact ⟨⟨oj 0 (by omega) (by omega), oi⟩, by omega, by omega, b1, b2⟩
theorem op28 : Op28 (Inv L xs) := fun x μ hI => by
  obtain ⟨i0, ⟨A, hSt, hZ⟩, hT, hsl, hB⟩ := hI
  have hP : Pre L xs μ A := ⟨i0, ⟨hSt, hZ⟩, hT, hB⟩
  have hI : Inv L xs μ := ⟨i0, ⟨A, hSt, hZ⟩, hT, hsl, hB⟩
  obtain ⟨hK, hC, hM, ht, hu⟩ := hSt
  have hR := hM.1
  rcases btw μ x 0 1 (by omega) (by omega) with ⟨i, rfl, -, hi, l1, l2⟩ | ⟨-, l1, l2⟩
  · have mc := m_cl (show i < 2 ^ 31 by omega)
    have hsl' := hsl
    obtain ⟨-, d1, n1, n2, n3⟩ := hsl
    rcases hsl'.at (i := i) (by omega) with ⟨z1, z2⟩ | ⟨z1, z2, z3, z4, z5, B, z6, z7, z8, z9, z10⟩
    · obtain ⟨g, hg⟩ : ∃ g, g = mNx μ := ⟨_, rfl⟩
      obtain ⟨ν, e1, c1, c2, c3, c4, c5, c6, c7⟩ := c12 (μ := mNew μ 1 (mN 1)) (f := g) (by omega) (by rw [hg]; show (if mNx μ = mNx μ then _ else _) = _; rw [if_pos rfl]; rfl) (by rw [hg]; rfl)
      obtain ⟨y1, y2, y3, y4⟩ := c4
      have nI' : ∀ q, q < g → mI ν q = mI μ q := fun q hq => by
        rw [y2 q hq]; funext k; rw [mI_Nw, if_neg (by omega)]
      have nF' : ∀ q, q < g → mF ν q = mF μ q := fun q hq => by
        rw [(y3 q (by omega)).1]; funext k; rw [mF_Nw, if_neg (by omega)]
      have nS' : ∀ q, q < g → mS ν q = mS μ q := fun q hq => by
        rw [c5 q (by omega)]; show (if q = mNx μ then _ else _) = _; rw [if_neg (by omega)]
      have nP' : ∀ q, q < g → mP ν q = mP μ q := fun q hq => by
        rw [c7 q hq]; funext k; show (if q = mNx μ then _ else _) = _; rw [if_neg (by omega)]
      have sN : mSl (mNew μ 1 (mN 1)) = mSl μ + 7 := rfl
      have uP : ∀ q j, mP (mUP ν 192 i g) q j = if q = 192 ∧ j = i then g else mP ν q j := fun q j => mP_UP
      have hP1 : Pre L xs (mUP ν 192 i g) A := Pre_cg hP (fun q hq => ⟨nI' q (by omega), nF' q (by omega)⟩) (fun q hq => nS' q (by omega)) (fun q hq hn => by
        funext j; rw [uP, if_neg (fun z => hn z.1), nP' q (by omega)])
      have oP : ∀ j, ¬ j = i → mP (mUP ν 192 i g) 192 j = mP μ 192 j := fun j hn => by
        rw [uP, if_neg (fun z => hn z.2), nP' 192 (by omega)]
      have iP : mP (mUP ν 192 i g) 192 i = g := by rw [uP, if_pos ⟨rfl, rfl⟩]
      have hF : FabL (mS (mUP ν 192 i g)) (mP (mUP ν 192 i g)) g := c3.congr (fun q a b => rfl) (fun q a b => by funext j; rw [uP, if_neg (by omega)])
      have oth : ∀ j, j < 2 → ¬ j = i → SlotOK (mUP ν 192 i g) j ∧ (mP (mUP ν 192 i g) 192 j = 0 ∨ g + 181 ≤ mP (mUP ν 192 i g) 192 j ∨ mP (mUP ν 192 i g) 192 j + 181 ≤ g) := fun j hj hn => by
        have o := hsl'.at (i := j) hj
        refine ⟨SlotOK_tr o (oP j hn) (by rw [mI_UP, nI' 205 (by omega)]) (fun k hk => by rw [mI_UP, nI' 203 (by omega)]) (fun k hk => by rw [mF_UP, nF' 204 (by omega)]) (by rw [mNx_UP]; omega) (fun q w1 w2 w3 w4 => ?_), ?_⟩
        · exact ⟨nI' q (by omega), nF' q (by omega), nS' q (by omega), by funext k; rw [uP, if_neg (by omega), nP' q (by omega)]⟩
        · rw [oP j hn]
          rcases o with ⟨z, -⟩ | ⟨-, z, z', -⟩
          · exact Or.inl z
          · omega
      have cnt : nSl (mUP ν 192 i g) 0 + nSl (mUP ν 192 i g) 1 = nSl μ 0 + nSl μ 1 + 1 := by
        unfold nSl
        have : i = 0 ∨ i = 1 := by omega
        rcases this with e | e <;> subst e
        · rw [iP, oP 1 (by omega), z1, if_neg (show ¬ g = 0 by omega), if_pos (show (0 : Nat) = 0 from rfl)]; omega
        · rw [iP, oP 0 (by omega), z1, if_neg (show ¬ g = 0 by omega), if_pos (show (0 : Nat) = 0 from rfl)]
      obtain ⟨v, μ1, μ2, q1, ⟨q2, q3, q4⟩, q5, q6⟩ := sav (i := i) (g := g) (by omega) hP1 iP (by omega) (by rw [mNx_UP]; omega) hF oth (by rw [mNx_UP, cnt]; omega) (by rw [mSl_UP, cnt, c2, sN]; omega)
      refine ⟨v, μ1, μ2, ?_, ⟨by rw [q2, mS_UP, nS' 1 (by omega)], by rw [q3, mI_UP, nI' 1 (by omega)], q4⟩, q5, q6⟩
      show s125 μ 2 (nI i) = _
      unfold s125
      rw [← hg]
      refine bindS l1 (iteT (show ¬ nI 1 = 0 by decide) (iteT (by rw [ClsL.s hK]) (iteT (by rw [ClsL.p2 hK, ClsL.s192 hK]; exact ⟨rfl, (mInb_iff (by omega)).mpr (by omega)⟩) (iteF (by rw [ClsL.p2 hK, mc, z1]; simp) (bindS rfl (iteT (by rw [hg]; show (if mNx μ = mNx μ then (1, mN 1) else mS μ (mNx μ)).1 = _; rw [if_pos rfl]) (bindS e1 (iteT (by rw [nS' 2 (by omega), ClsL.s hK]) (iteT (by rw [nP' 2 (by omega), ClsL.p2 hK, nS' 192 (by omega), ClsL.s192 hK]; exact ⟨rfl, (mInb_iff (by omega)).mpr (by omega)⟩) (iteT (by rw [FabL.s0 c3]; exact ⟨rfl, by omega⟩) (bindS (v := mUP ν 192 i g) (by rw [nP' 2 (by omega), ClsL.p2 hK, mc]) q1)))))))))))
    · obtain ⟨v, μ1, μ2, q1, q2, q3, q4⟩ := sav (i := i) (g := mP μ 192 i) (by omega) hP rfl z2 z3 z4 (fun j hj hn => ⟨hsl'.at hj, by
        have : (i = 0 ∧ j = 1) ∨ (i = 1 ∧ j = 0) := by omega
        rcases this with ⟨e, e'⟩ | ⟨e, e'⟩ <;> subst e <;> subst e' <;> omega⟩) n2 n3
      refine ⟨v, μ1, μ2, ?_, q2, q3, q4⟩
      show s125 μ 2 (nI i) = _
      unfold s125
      refine bindS l1 (iteT (show ¬ nI 1 = 0 by decide) (iteT (by rw [ClsL.s hK]) (iteT (by rw [ClsL.p2 hK, ClsL.s192 hK]; exact ⟨rfl, (mInb_iff (by omega)).mpr (by omega)⟩) (iteT (by rw [ClsL.p2 hK, mc]; omega) ?_))))
      rw [ClsL.p2 hK, mc]; exact q1
  · refine ⟨-1, μ, μ, ?_, ⟨rfl, rfl, by rw [RefL.s hR]⟩, ?_, hI⟩
    · show s125 μ 2 x = _
      unfold s125
      exact bindS l1 (iteF (show ¬ ¬ nI 0 = 0 by decide) rfl)
    · show s236 μ 200 x = _
      unfold s236
      exact bindS l2 (iteF (show ¬ ¬ nI 0 = 0 by decide) rfl)
end SW
