/-! Plan(), Clock(), Shares(), TunnelFabric() -/
def PlanL (S : LyS) (P : LyP) (a : Nat) : Prop := S a = (3, 12) ∧ P a 0 = a + 1 ∧ P a 2 = a + 2 ∧ P a 3 = a + 3 ∧ P a 4 = a + 4 ∧ P a 5 = a + 5 ∧ P a 6 = a + 6 ∧ P a 7 = a + 7 ∧ S (a + 1) = (10, 60) ∧ S (a + 2) = (10, 8) ∧ S (a + 3) = (10, 8) ∧ S (a + 4) = (10, 8) ∧ S (a + 5) = (10, 8) ∧ S (a + 6) = (10, 8) ∧ S (a + 7) = (10, 8)
theorem c59 {μ : mM} {a : Nat} (hS : mS μ a = (3, 12)) (hN : mNx μ = a + 1) (h0 : ¬ a = 0) : ∃ μ', s59 μ a = some μ' ∧ mNx μ' = a + 8 ∧ mSl μ' = mSl μ + 108 ∧ PlanL (mS μ') (mP μ') a ∧ Ext a μ μ' := by
  refine ⟨mFld (mFld (mFld (mFld (mFld (mFld (mFld μ a 0 10 60) a 2 10 8) a 3 10 8) a 4 10 8) a 5 10 8) a 6 10 8) a 7 10 8, ?_, ?_, ?_, ?_, ?_⟩
  · simp [s59, h0, mS_Nw, mS_UP, mNx_Nw, mNx_UP, hN, hS, mFld, e_8, e_60, Nat.add_assoc]
  · simp [mNx_fld, hN]
  · simp [mSl_fld]
  · simp [PlanL, mS_fld, mP_fld, mNx_fld, hN, hS, Nat.add_assoc]
  · refine (Ext_fld ?_ 0 10 60).trans ((Ext_fld ?_ 2 10 8).trans ((Ext_fld ?_ 3 10 8).trans ((Ext_fld ?_ 4 10 8).trans ((Ext_fld ?_ 5 10 8).trans ((Ext_fld ?_ 6 10 8).trans (Ext_fld ?_ 7 10 8) (Nat.le_refl _)) (Nat.le_refl _)) (Nat.le_refl _)) (Nat.le_refl _)) (Nat.le_refl _)) (Nat.le_refl _)
    all_goals (simp only [mNx_fld, hN]; omega)
def ClockL (S : LyS) (P : LyP) (a : Nat) : Prop := S a = (0, 2) ∧ P a 0 = a + 1 ∧ S (a + 1) = (10, 10)
theorem c0 {μ : mM} {a : Nat} (hS : mS μ a = (0, 2)) (hN : mNx μ = a + 1) (h0 : ¬ a = 0) : ∃ μ', s0 μ a = some μ' ∧ mNx μ' = a + 2 ∧ mSl μ' = mSl μ + 10 ∧ ClockL (mS μ') (mP μ') a ∧ Ext a μ μ' := by
  refine ⟨mFld μ a 0 10 10, ?_, ?_, ?_, ?_, Ext_fld (by omega) 0 10 10⟩
  · simp [s0, h0, mS_Nw, mS_UP, mNx_Nw, mNx_UP, hN, hS, mFld, e_10, Nat.add_assoc]
  · simp [mNx_fld, hN]
  · simp [mSl_fld]
  · simp [ClockL, mS_fld, mP_fld, mNx_fld, hN, hS, Nat.add_assoc]
def SharesL (S : LyS) (P : LyP) (a : Nat) : Prop := S a = (5, 4) ∧ P a 0 = a + 1 ∧ P a 1 = a + 2 ∧ P a 2 = a + 3 ∧ S (a + 1) = (11, 8) ∧ S (a + 2) = (11, 10) ∧ S (a + 3) = (12, 10)
theorem c71 {μ : mM} {a : Nat} (hS : mS μ a = (5, 4)) (hN : mNx μ = a + 1) (h0 : ¬ a = 0) : ∃ μ', s71 μ a = some μ' ∧ mNx μ' = a + 4 ∧ mSl μ' = mSl μ + 28 ∧ SharesL (mS μ') (mP μ') a ∧ Ext a μ μ' := by
  refine ⟨mFld (mFld (mFld μ a 0 11 8) a 1 11 10) a 2 12 10, ?_, ?_, ?_, ?_, ?_⟩
  · simp [s71, h0, mS_Nw, mS_UP, mNx_Nw, mNx_UP, hN, hS, mFld, e_8, e_10, Nat.add_assoc]
  · simp [mNx_fld, hN]
  · simp [mSl_fld]
  · simp [SharesL, mS_fld, mP_fld, mNx_fld, hN, hS, Nat.add_assoc]
  · refine (Ext_fld ?_ 0 11 8).trans ((Ext_fld ?_ 1 11 10).trans (Ext_fld ?_ 2 12 10) (Nat.le_refl _)) (Nat.le_refl _)
    all_goals (simp only [mNx_fld, hN]; omega)
/-- the class's static layout; the references of the slots' row (192) apart -/
def ClsL (S : LyS) (P : LyP) : Prop := S 2 = (8, 6) ∧ P 2 0 = 3 ∧ P 2 1 = 11 ∧ P 2 2 = 192 ∧ P 2 3 = 193 ∧ P 2 4 = 195 ∧ P 2 5 = 199 ∧ PlanL S P 3 ∧ FabL S P 11 ∧ S 192 = (21, 2) ∧ ClockL S P 193 ∧ SharesL S P 195 ∧ S 199 = (10, 10)
theorem PlanL.congr {S S' : LyS} {P P' : LyP} {w : Nat} (h : PlanL S P w) (hS : ∀ q, w ≤ q → q < w + 8 → S' q = S q) (hP : P' w = P w) : PlanL S' P' w := by
  obtain ⟨h1, h2, h3, h4, h5, h6, h7, h8, h9, h10, h11, h12, h13, h14, h15⟩ := h
  exact ⟨by rw [hS w (by omega) (by omega)]; exact h1, by rw [hP]; exact h2, by rw [hP]; exact h3, by rw [hP]; exact h4, by rw [hP]; exact h5, by rw [hP]; exact h6, by rw [hP]; exact h7, by rw [hP]; exact h8, by rw [hS _ (by omega) (by omega)]; exact h9, by rw [hS _ (by omega) (by omega)]; exact h10, by rw [hS _ (by omega) (by omega)]; exact h11, by rw [hS _ (by omega) (by omega)]; exact h12, by rw [hS _ (by omega) (by omega)]; exact h13, by rw [hS _ (by omega) (by omega)]; exact h14, by rw [hS _ (by omega) (by omega)]; exact h15⟩
theorem FabL.congr {S S' : LyS} {P P' : LyP} {f : Nat} (h : FabL S P f) (hS : ∀ q, f ≤ q → q < f + 181 → S' q = S q) (hP : ∀ q, f ≤ q → q < f + 181 → P' q = P q) : FabL S' P' f := by
  obtain ⟨h1, h2, h3, h4, h5, h6, h7⟩ := h
  refine ⟨by rw [hS _ (by omega) (by omega)]; exact h1, by rw [hP _ (by omega) (by omega)]; exact h2, by rw [hP _ (by omega) (by omega)]; exact h3, by rw [hS _ (by omega) (by omega)]; exact h4, by rw [hS _ (by omega) (by omega)]; exact h5, fun j hj => ?_, fun t ht => ?_⟩
  · obtain ⟨a1, a2⟩ := h6 j hj
    exact ⟨by rw [hP _ (by omega) (by omega)]; exact a1, a2.congr (fun q q1 q2 => hS q (by omega) (by omega)) (fun q q1 q2 => hP q (by omega) (by omega))⟩
  · obtain ⟨a1, a2⟩ := h7 t ht
    exact ⟨by rw [hP _ (by omega) (by omega)]; exact a1, a2.congr (fun q q1 q2 => hS q (by omega) (by omega)) (fun q q1 q2 => hP q (by omega) (by omega))⟩
/-- what the class's cells hold at the start -/
def ClsNew (μ' : mM) : Prop := (∀ q, 2 ≤ q → q < 200 → ∀ k, mI μ' q k = (if q = 11 ∧ k = 2 then 3 else if q = 14 ∧ k = 0 then 1 else if q = 14 ∧ k = 1 then 4 else if q = 14 ∧ k = 2 then 3 else 0) ∧ mF μ' q k = 0 ∧ mJ μ' q k = 0) ∧ ∀ k, mP μ' 192 k = 0
/-- rows below n stay, but for the references of cell 2 -/
def Kp (n : Nat) (μ μ' : mM) : Prop := ∀ q, q < n → mI μ' q = mI μ q ∧ mF μ' q = mF μ q ∧ mJ μ' q = mJ μ q ∧ mS μ' q = mS μ q ∧ (q ≠ 2 → mP μ' q = mP μ q)
theorem Kp.trans {n : Nat} {μ μ1 μ2 : mM} (h1 : Kp n μ μ1) (h2 : Kp n μ1 μ2) : Kp n μ μ2 := fun q hq => by
  obtain ⟨a1, a2, a3, a4, a5⟩ := h1 q hq
  obtain ⟨b1, b2, b3, b4, b5⟩ := h2 q hq
  exact ⟨b1.trans a1, b2.trans a2, b3.trans a3, b4.trans a4, fun h => (b5 h).trans (a5 h)⟩
theorem Kp.mono {n n' : Nat} {μ μ' : mM} (h : Kp n μ μ') (hn : n' ≤ n) : Kp n' μ μ' := fun q hq => h q (by omega)
theorem Kp_ref {n : Nat} (μ : mM) (k v : Nat) : Kp n μ (mUP μ 2 k v) := fun q hq => ⟨rfl, rfl, rfl, rfl, fun h => by funext j; rw [mP_UP, if_neg (fun z => h z.1)]⟩
theorem Kp_new {n : Nat} {μ : mM} (t l : Nat) (h : n ≤ mNx μ) : Kp n μ (mNew μ t l) := fun q hq => ⟨by funext j; rw [mI_Nw, if_neg (by omega)], by funext j; rw [mF_Nw, if_neg (by omega)], by funext j; rw [mJ_Nw, if_neg (by omega)], by rw [mS_Nw, if_neg (by omega)], fun _ => by funext j; rw [mP_Nw, if_neg (by omega)]⟩
theorem Kp_ext {a n : Nat} {μ μ' : mM} (h : Ext a μ μ') (h1 : n ≤ a) (h2 : a ≤ mNx μ) : Kp n μ μ' := fun q hq => by
  obtain ⟨c1, c2, c3, c4⟩ := h.2.1 q (by omega)
  exact ⟨c1, c2, c3, c4, fun _ => h.2.2.2.2 q (by omega)⟩
theorem c96 {μ : mM} (hS : mS μ 2 = (8, 6)) (hN : mNx μ = 3) (hz : ∀ k, mI μ 2 k = 0 ∧ mF μ 2 k = 0 ∧ mJ μ 2 k = 0) : ∃ μ', s96 μ 2 = some μ' ∧ mNx μ' = 200 ∧ mSl μ' = mSl μ + 1053 ∧ ClsL (mS μ') (mP μ') ∧ ClsNew μ' ∧ (mS μ' 1 = mS μ 1 ∧ mI μ' 1 = mI μ 1) := by
  obtain ⟨m2, a1, a2, a3, a4, a5⟩ := c59 (μ := mNew μ 3 (mN 3)) (a := 3) (by rw [mS_Nw, hN]; rfl) (by rw [mNx_Nw, hN]) (by omega)
  obtain ⟨m5, b1, b2, b3, b4, b5, b6, b7, b8⟩ := c12 (μ := mNew (mUP m2 2 0 3) 1 (mN 1)) (f := 11) (by omega) (by rw [mS_Nw, mNx_UP, a2]; rfl) (by rw [mNx_Nw, mNx_UP, a2])
  obtain ⟨m7, e7⟩ : ∃ m, m = mFld (mUP m5 2 1 11) 2 2 21 2 := ⟨_, rfl⟩
  have d1 : mNx m7 = 193 := by rw [e7, mNx_fld, mNx_UP, b2]
  obtain ⟨m9, f1, f2, f3, f4, f5⟩ := c0 (μ := mNew m7 0 (mN 0)) (a := 193) (by rw [mS_Nw, d1]; rfl) (by rw [mNx_Nw, d1]) (by omega)
  obtain ⟨m12, g1, g2, g3, g4, g5⟩ := c71 (μ := mNew (mUP m9 2 3 193) 5 (mN 5)) (a := 195) (by rw [mS_Nw, mNx_UP, f2]; rfl) (by rw [mNx_Nw, mNx_UP, f2]) (by omega)
  obtain ⟨m14, e14⟩ : ∃ m, m = mFld (mUP m12 2 4 195) 2 5 10 10 := ⟨_, rfl⟩
  have n14 : mNx m14 = 200 := by rw [e14, mNx_fld, mNx_UP, g2]
  -- what stays
  have K0 : Kp 3 μ m2 := (Kp_new 3 (mN 3) (by omega)).trans (Kp_ext a5 (by omega) (by rw [mNx_Nw]; omega))
  have K1 : Kp 11 m2 m5 := ((Kp_ref m2 0 3).trans (Kp_new 1 (mN 1) (by rw [mNx_UP, a2]; omega))).trans (fun q hq => ⟨b5.2.1 q hq, (b5.2.2.1 q (by omega)).1, (b5.2.2.1 q (by omega)).2, b6 q (by omega), fun _ => b8 q hq⟩)
  have K2 : Kp 192 m5 m7 := by
    rw [e7]
    exact (Kp_ref m5 1 11).trans ((Kp_new 21 2 (by rw [mNx_UP, b2]; omega)).trans (Kp_ref _ 2 _))
  have K3 : Kp 193 m7 m9 := (Kp_new 0 (mN 0) (by omega)).trans (Kp_ext f5 (by omega) (by rw [mNx_Nw]; omega))
  have K4 : Kp 195 m9 m12 := (Kp_ref m9 3 193).trans ((Kp_new 5 (mN 5) (by rw [mNx_UP, f2]; omega)).trans (Kp_ext g5 (by omega) (by rw [mNx_Nw, mNx_UP, f2]; omega)))
  have K5 : Kp 199 m12 m14 := by
    rw [e14]
    exact (Kp_ref m12 4 195).trans ((Kp_new 10 10 (by rw [mNx_UP, g2]; omega)).trans (Kp_ref _ 5 _))
  have K45 : Kp 195 m9 m14 := K4.trans (K5.mono (by omega))
  have K35 : Kp 193 m7 m14 := K3.trans (K45.mono (by omega))
  have K25 : Kp 192 m5 m14 := K2.trans (K35.mono (by omega))
  have K15 : Kp 11 m2 m14 := K1.trans (K25.mono (by omega))
  have K05 : Kp 3 μ m14 := K0.trans (K15.mono (by omega))
  have t2 : mS m2 2 = (8, 6) := by rw [(K0 2 (by omega)).2.2.2.1]; exact hS
  have t5 : mS m5 2 = (8, 6) := by rw [(K1 2 (by omega)).2.2.2.1]; exact t2
  have t7 : mS m7 2 = (8, 6) := by rw [(K2 2 (by omega)).2.2.2.1]; exact t5
  have t9 : mS m9 2 = (8, 6) := by rw [(K3 2 (by omega)).2.2.2.1]; exact t7
  have t12 : mS m12 2 = (8, 6) := by rw [(K4 2 (by omega)).2.2.2.1]; exact t9
  have t14 : mS m14 2 = (8, 6) := by rw [(K5 2 (by omega)).2.2.2.1]; exact t12
  -- the references of cell 2
  have p5 : mP m5 2 = mP (mUP m2 2 0 3) 2 := by rw [b8 2 (by omega)]; funext j; rw [mP_Nw, mNx_UP, a2, if_neg (by omega)]
  have p9 : mP m9 2 = mP m7 2 := by rw [f5.2.2.2.2 2 (by omega)]; funext j; rw [mP_Nw, d1, if_neg (by omega)]
  have p12 : mP m12 2 = mP (mUP m9 2 3 193) 2 := by rw [g5.2.2.2.2 2 (by omega)]; funext j; rw [mP_Nw, mNx_UP, f2, if_neg (by omega)]
  have p14 : ∀ j, mP m14 2 j = if j = 5 then 199 else if j = 4 then 195 else if j = 3 then 193 else if j = 2 then 192 else if j = 1 then 11 else if j = 0 then 3 else mP m2 2 j := by
    intro j
    rw [e14, mP_fld, mNx_UP, g2, mP_UP, p12, mP_UP, p9, e7, mP_fld, mNx_UP, b2, mP_UP, p5, mP_UP]
    simp
  refine ⟨m14, ?_, n14, ?_, ?_, ?_, (K05 1 (by omega)).2.2.2.1, (K05 1 (by omega)).1⟩
  · have u1 : mS (mNew μ 3 (mN 3)) 3 = (3, 12) := by rw [mS_Nw, hN]; rfl
    have u2 : mS (mNew (mUP m2 2 0 3) 1 (mN 1)) 11 = (1, 7) := by rw [mS_Nw, mNx_UP, a2]; rfl
    have u3 : mS (mNew (mUP m5 2 1 11) (20 + 1) 2) 2 = (8, 6) := by rw [mS_Nw, mNx_UP, b2, if_neg (by omega), mS_UP]; exact t5
    have u4 : mUP (mNew (mUP m5 2 1 11) (20 + 1) 2) 2 2 192 = m7 := by rw [e7, mFld, mNx_UP, b2]
    have u5 : mS (mNew m7 0 (mN 0)) 193 = (0, 2) := by rw [mS_Nw, d1]; rfl
    have u6 : mS (mNew (mUP m9 2 3 193) 5 (mN 5)) 195 = (5, 4) := by rw [mS_Nw, mNx_UP, f2]; rfl
    have u7 : mS (mNew (mUP m12 2 4 195) 10 10) 2 = (8, 6) := by rw [mS_Nw, mNx_UP, g2, if_neg (by omega), mS_UP]; exact t12
    have u8 : mUP (mNew (mUP m12 2 4 195) 10 10) 2 5 199 = m14 := by rw [e14, mFld, mNx_UP, g2]
    have f2' : mNx m9 = 195 := f2
    have g2' : mNx m12 = 199 := g2
    have a2' : mNx m2 = 11 := a2
    have b2' : mNx m5 = 192 := b2
    have v4 : mNx (mUP (mNew (mUP m5 2 1 11) (20 + 1) 2) 2 2 192) = 193 := by rw [u4]; exact d1
    have v9 : mNx (mUP m9 2 3 193) = 195 := f2
    have v12 : mNx (mUP m12 2 4 195) = 199 := g2
    have v2 : mNx (mUP m2 2 0 3) = 11 := a2
    have v5 : mNx (mUP m5 2 1 11) = 192 := b2
    simp only [s96, show (¬ (2 : Nat) = 0) = True from by simp, if_true, Option.bind_some, hN, u1, a1, t2, v2, u2, b1, t5, v5, e_2, u3, v4]
    simp only [u4, u5, f1, t9, v9, u6, g1, t12, v12, e_10, u7, u8, if_true, Option.bind_some]
  · rw [e14, mSl_fld, mSl_UP, g3, mSl_Nw, mSl_UP, f3, mSl_Nw, e7, mSl_fld, mSl_UP, b3, mSl_Nw, mSl_UP, a3, mSl_Nw, show mN 3 = 12 from rfl, show mN 1 = 7 from rfl, show mN 0 = 2 from rfl, show mN 5 = 4 from rfl]
  · refine ⟨t14, by rw [p14]; simp, by rw [p14]; simp, by rw [p14]; simp, by rw [p14]; simp, by rw [p14]; simp, by rw [p14]; simp, a4.congr (fun q _ h => (K15 q (by omega)).2.2.2.1) ((K15 3 (by omega)).2.2.2.2 (by omega)), b4.congr (fun q h1 h => (K25 q (by omega)).2.2.2.1) (fun q h1 h => (K25 q (by omega)).2.2.2.2 (by omega)), ?_, ?_, ?_, ?_⟩
    · rw [(K35 192 (by omega)).2.2.2.1, e7, mS_fld, mNx_UP, b2, if_pos rfl]
    · refine ⟨?_, ?_, ?_⟩
      · rw [(K45 193 (by omega)).2.2.2.1]; exact f4.1
      · rw [(K45 193 (by omega)).2.2.2.2 (by omega)]; exact f4.2.1
      · rw [(K45 (193 + 1) (by omega)).2.2.2.1]; exact f4.2.2
    · refine ⟨?_, ?_, ?_, ?_, ?_, ?_, ?_⟩
      · rw [(K5 195 (by omega)).2.2.2.1]; exact g4.1
      · rw [(K5 195 (by omega)).2.2.2.2 (by omega)]; exact g4.2.1
      · rw [(K5 195 (by omega)).2.2.2.2 (by omega)]; exact g4.2.2.1
      · rw [(K5 195 (by omega)).2.2.2.2 (by omega)]; exact g4.2.2.2.1
      · rw [(K5 (195 + 1) (by omega)).2.2.2.1]; exact g4.2.2.2.2.1
      · rw [(K5 (195 + 2) (by omega)).2.2.2.1]; exact g4.2.2.2.2.2.1
      · rw [(K5 (195 + 3) (by omega)).2.2.2.1]; exact g4.2.2.2.2.2.2
    · rw [e14, mS_fld, mNx_UP, g2, if_pos rfl]
  · refine ⟨fun q q1 q2 k => ?_, fun k => ?_⟩
    · have zz : ∀ {m m' : mM} {n : Nat}, Kp n m m' → q < n → (mI m q k = 0 ∧ mF m q k = 0 ∧ mJ m q k = 0) → (mI m' q k = 0 ∧ mF m' q k = 0 ∧ mJ m' q k = 0) := by
        intro m m' n hk hq h
        obtain ⟨c1, c2, c3, -⟩ := hk q hq
        rw [c1, c2, c3]; exact h
      by_cases c11 : q < 11
      · have h0 : mI m14 q k = 0 ∧ mF m14 q k = 0 ∧ mJ m14 q k = 0 := by
          by_cases c3 : q < 3
          · have : q = 2 := by omega
            subst this
            exact zz K05 (by omega) (hz k)
          · refine zz K15 (by omega) ?_
            by_cases c4 : q = 3
            · subst c4
              obtain ⟨c1, c2, c3, -⟩ := a5.2.1 3 (by rw [mNx_Nw, hN]; omega)
              rw [c1, c2, c3, mI_Nw, mF_Nw, mJ_Nw, hN]; simp
            · exact a5.2.2.1 q (by rw [mNx_Nw, hN]; omega) (by omega) k
        rw [if_neg (by omega), if_neg (by omega), if_neg (by omega), if_neg (by omega)]
        exact h0
      by_cases c192 : q < 192
      · obtain ⟨k1, k2, k3, -⟩ := K25 q c192
        rw [k1, k2, k3]
        by_cases c : q = 11
        · subst c
          obtain ⟨r1, r2⟩ := b5.2.2.1 11 (Nat.le_refl _)
          rw [show mI m5 11 k = if k = 2 then 3 else mI (mNew (mUP m2 2 0 3) 1 (mN 1)) 11 k from congrFun b5.1 k, r1, r2, mF_Nw, mJ_Nw, mNx_UP, a2, if_pos rfl, if_pos rfl]
          refine ⟨?_, rfl, rfl⟩
          by_cases hk : k = 2
          · simp [hk]
          · rw [if_neg hk, mI_Nw, mNx_UP, a2, if_pos rfl, if_neg (fun z => hk z.2), if_neg (by omega), if_neg (by omega), if_neg (by omega)]
        · obtain ⟨r1, r2, r3⟩ := b5.2.2.2 q (by omega) (by omega) k
          refine ⟨?_, r2, r3⟩
          rw [if_neg (fun z : q = 11 ∧ k = 2 => c z.1)]
          exact r1
      have h0 : mI m14 q k = 0 ∧ mF m14 q k = 0 ∧ mJ m14 q k = 0 := by
        by_cases d192 : q = 192
        · subst d192
          refine zz K35 (by omega) ?_
          rw [e7]
          refine ⟨by rw [mI_fld, mNx_UP, b2, if_pos rfl], by rw [mF_fld, mNx_UP, b2, if_pos rfl], ?_⟩
          show (if 192 = mNx (mUP m5 2 1 11) then 0 else mJ (mUP m5 2 1 11) 192 k) = 0
          rw [mNx_UP, b2, if_pos rfl]
        by_cases d195 : q < 195
        · refine zz K45 d195 ?_
          by_cases d193 : q = 193
          · subst d193
            obtain ⟨c1, c2, c3, -⟩ := f5.2.1 193 (by rw [mNx_Nw, d1]; omega)
            rw [c1, c2, c3, mI_Nw, mF_Nw, mJ_Nw, d1]; simp
          · exact f5.2.2.1 q (by rw [mNx_Nw, d1]; omega) (by omega) k
        by_cases d199 : q < 199
        · refine zz K5 d199 ?_
          by_cases d195 : q = 195
          · subst d195
            obtain ⟨c1, c2, c3, -⟩ := g5.2.1 195 (by rw [mNx_Nw, mNx_UP, f2]; omega)
            rw [c1, c2, c3, mI_Nw, mF_Nw, mJ_Nw, mNx_UP, f2]; simp
          · exact g5.2.2.1 q (by rw [mNx_Nw, mNx_UP, f2]; omega) (by omega) k
        · have : q = 199 := by omega
          subst this
          rw [e14]
          refine ⟨by rw [mI_fld, mNx_UP, g2, if_pos rfl], by rw [mF_fld, mNx_UP, g2, if_pos rfl], ?_⟩
          show (if 199 = mNx (mUP m12 2 4 195) then 0 else mJ (mUP m12 2 4 195) 199 k) = 0
          rw [mNx_UP, g2, if_pos rfl]
      rw [if_neg (by omega), if_neg (by omega), if_neg (by omega), if_neg (by omega)]
      exact h0
    · rw [(K35 192 (by omega)).2.2.2.2 (by omega), e7, mP_fld, mNx_UP, b2, if_neg (by omega), if_pos rfl]
