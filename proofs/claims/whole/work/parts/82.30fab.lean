/-! Fabric(): the whole layout of a fabric -/
theorem RouL.congr {S S' : LyS} {P P' : LyP} {w : Nat} (h : RouL S P w) (hS : ∀ q, w ≤ q → q < w + 6 → S' q = S q) (hP : ∀ q, w ≤ q → q < w + 6 → P' q = P q) : RouL S' P' w := by
  obtain ⟨h1, h2, h3⟩ := h
  exact ⟨by rw [hS w (by omega) (by omega)]; exact h1, by rw [hP w (by omega) (by omega)]; exact h2, h3.congr (fun q a b => hS q (by omega) (by omega)) (hP _ (by omega) (by omega))⟩
theorem TunL.congr {S S' : LyS} {P P' : LyP} {w : Nat} (h : TunL S P w) (hS : ∀ q, w ≤ q → q < w + 13 → S' q = S q) (hP : ∀ q, w ≤ q → q < w + 13 → P' q = P q) : TunL S' P' w := by
  obtain ⟨h1, h2, h3, h4, h5⟩ := h
  exact ⟨by rw [hS w (by omega) (by omega)]; exact h1, by rw [hP w (by omega) (by omega)]; exact h2, by rw [hP w (by omega) (by omega)]; exact h3, h4.congr (fun q a b => hS q (by omega) (by omega)) (hP _ (by omega) (by omega)), h5.congr (fun q a b => hS q (by omega) (by omega)) (hP _ (by omega) (by omega))⟩
/-- with i routers made -/
def FabI (f : Nat) (μ0 : mM) (i : Nat) (s : Int32 × mM) : Prop := s.1 = nI i ∧ mNx s.2 = f + 3 + 6 * i ∧ mSl s.2 = mSl μ0 + 24 * i ∧ mS s.2 f = (1, 7) ∧ mP s.2 f 0 = f + 1 ∧ mP s.2 f 1 = f + 2 ∧ mS s.2 (f + 1) = (24, 8) ∧ mS s.2 (f + 2) = (26, 10) ∧ Ext (f + 1) μ0 s.2 ∧ ∀ j, j < i → mP s.2 (f + 1) j = f + 3 + 6 * j ∧ RouL (mS s.2) (mP s.2) (f + 3 + 6 * j)
theorem nI_le8 {i n : Nat} (h : i < n) (hn : n < 2 ^ 31) : ¬ nI n ≤ nI i := nI_ge h hn
theorem c12_step {f : Nat} (hf : 2 ≤ f) {μ0 : mM} {i : Nat} {s : Int32 × mM} (hi : i < 8) (hI : FabI f μ0 i s) : ∃ s', s12L15 f s = some (.inl s') ∧ FabI f μ0 (i + 1) s' := by
  obtain ⟨x, m⟩ := s
  obtain ⟨h1, h2, h3, h4, h5, h6, h7, h8, h9, h10⟩ := hI
  simp only at h1 h2 h3 h4 h5 h6 h7 h8 h9 h10
  subst h1
  obtain ⟨m2, g1, g2, g3, g4, g5⟩ := c69 (μ := mNew m 4 (mN 4)) (a := f + 3 + 6 * i) (by rw [mS_Nw, if_pos h2.symm]; rfl) (by rw [mNx_Nw, h2]) (by omega)
  have hlow : ∀ q, q < f + 3 + 6 * i → mS m2 q = mS m q := fun q hq => by
    rw [(g5.2.1 q (by rw [mNx_Nw, h2]; omega)).2.2.2, mS_Nw, if_neg (by omega)]
  have hlowP : ∀ q, q < f + 3 + 6 * i → mP m2 q = mP m q := fun q hq => by
    rw [g5.2.2.2.2 q hq]
    funext j; rw [mP_Nw, if_neg (by omega)]
  refine ⟨(nI (i + 1), mUP m2 (f + 1) i (f + 3 + 6 * i)), ?_, rfl, ?_, ?_, ?_, ?_, ?_, ?_, ?_, ?_, fun j hj => ?_⟩
  · have e1 : ¬ (8 : Int32) ≤ nI i := nI_ge (b := 8) hi (by omega)
    have e2 : mInb (nI i) 8 := mInb_nI hi (by omega)
    have e3 : Int32.toNatClampNeg (nI i) = i := m_cl (by omega)
    have e4 : mS m2 (f + 3 + 6 * i) = (4, 7) := g4.1
    have e5 : mS m2 (f + 1) = (24, 8) := by rw [hlow _ (by omega)]; exact h7
    have e6 : mS (mNew m 4 (mN 4)) (f + 3 + 6 * i) = (4, 7) := by rw [mS_Nw, if_pos h2.symm]; rfl
    simp only [s12L15, if_neg e1, h4, h2, h5, e6, g1, Option.bind_some, if_true, e5, e2, e3, e4, nI_1]
    simp
    exact ⟨nI_pos' (by omega), by rw [e3]; exact hi⟩
  · rw [mNx_UP, g2]; omega
  · rw [mSl_UP, g3, mSl_Nw, h3, show mN 4 = 7 from rfl]; omega
  · rw [mS_UP, hlow _ (by omega)]; exact h4
  · rw [mP_UP, if_neg (fun q => by omega), hlowP _ (by omega)]; exact h5
  · rw [mP_UP, if_neg (fun q => by omega), hlowP _ (by omega)]; exact h6
  · rw [mS_UP, hlow _ (by omega)]; exact h7
  · rw [mS_UP, hlow _ (by omega)]; exact h8
  · have e1 := h9.trans ((Ext_new m 4 (mN 4)).mono (lo' := f + 1) (by omega)) (Nat.le_refl _)
    have e2 := e1.trans (g5.mono (lo' := f + 1) (by omega)) (Nat.le_refl _)
    exact e2.trans (Ext_ref m2 (f + 1) i _) (Nat.le_refl _)
  · by_cases hji : j = i
    · subst hji
      refine ⟨by rw [mP_UP, if_pos ⟨rfl, rfl⟩], g4.congr (fun q _ _ => rfl) (fun q q1 q2 => ?_)⟩
      funext k; rw [mP_UP, if_neg (fun z => by omega)]
    · obtain ⟨k1, k2⟩ := h10 j (by omega)
      refine ⟨by rw [mP_UP, if_neg (fun z => hji z.2), hlowP _ (by omega)]; exact k1, k2.congr (fun q q1 q2 => ?_) (fun q q1 q2 => ?_)⟩
      · rw [mS_UP]; exact hlow q (by omega)
      · funext k; rw [mP_UP, if_neg (fun z => by omega), hlowP _ (by omega)]
/-- with all routers, and i tunnels made -/
def FabJ (f : Nat) (μ0 : mM) (i : Nat) (s : Int32 × mM) : Prop := s.1 = nI i ∧ mNx s.2 = f + 51 + 13 * i ∧ mSl s.2 = mSl μ0 + 192 + 66 * i ∧ mS s.2 f = (1, 7) ∧ mP s.2 f 0 = f + 1 ∧ mP s.2 f 1 = f + 2 ∧ mS s.2 (f + 1) = (24, 8) ∧ mS s.2 (f + 2) = (26, 10) ∧ Ext (f + 1) μ0 s.2 ∧ (∀ j, j < 8 → mP s.2 (f + 1) j = f + 3 + 6 * j ∧ RouL (mS s.2) (mP s.2) (f + 3 + 6 * j)) ∧ ∀ j, j < i → mP s.2 (f + 2) j = f + 51 + 13 * j ∧ TunL (mS s.2) (mP s.2) (f + 51 + 13 * j)
theorem c12_stepT {f : Nat} (hf : 2 ≤ f) {μ0 : mM} {i : Nat} {s : Int32 × mM} (hi : i < 10) (hI : FabJ f μ0 i s) : ∃ s', s12L29 f s = some (.inl s') ∧ FabJ f μ0 (i + 1) s' := by
  obtain ⟨x, m⟩ := s
  obtain ⟨h1, h2, h3, h4, h5, h6, h7, h8, h9, h10, h11⟩ := hI
  simp only at h1 h2 h3 h4 h5 h6 h7 h8 h9 h10 h11
  subst h1
  obtain ⟨m2, g1, g2, g3, g4, g5⟩ := c77 (μ := mNew m 6 (mN 6)) (a := f + 51 + 13 * i) (by rw [mS_Nw, if_pos h2.symm]; rfl) (by rw [mNx_Nw, h2]) (by omega)
  have hlow : ∀ q, q < f + 51 + 13 * i → mS m2 q = mS m q := fun q hq => by
    rw [(g5.2.1 q (by rw [mNx_Nw, h2]; omega)).2.2.2, mS_Nw, if_neg (by omega)]
  have hlowP : ∀ q, q < f + 51 + 13 * i → mP m2 q = mP m q := fun q hq => by
    rw [g5.2.2.2.2 q hq]
    funext j; rw [mP_Nw, if_neg (by omega)]
  refine ⟨(nI (i + 1), mUP m2 (f + 2) i (f + 51 + 13 * i)), ?_, rfl, ?_, ?_, ?_, ?_, ?_, ?_, ?_, ?_, fun j hj => ?_, fun j hj => ?_⟩
  · have e1 : ¬ (10 : Int32) ≤ nI i := nI_ge (b := 10) hi (by omega)
    have e2 : mInb (nI i) 10 := mInb_nI hi (by omega)
    have e3 : Int32.toNatClampNeg (nI i) = i := m_cl (by omega)
    have e4 : mS m2 (f + 51 + 13 * i) = (6, 8) := g4.1
    have e5 : mS m2 (f + 2) = (26, 10) := by rw [hlow _ (by omega)]; exact h8
    have e6 : mS (mNew m 6 (mN 6)) (f + 51 + 13 * i) = (6, 8) := by rw [mS_Nw, if_pos h2.symm]; rfl
    simp only [s12L29, if_neg e1, h4, h2, h6, e6, g1, Option.bind_some, if_true, e5, e2, e3, e4, nI_1]
    simp
    exact ⟨nI_pos' (by omega), by rw [e3]; exact hi⟩
  · rw [mNx_UP, g2]; omega
  · rw [mSl_UP, g3, mSl_Nw, h3, show mN 6 = 8 from rfl]; omega
  · rw [mS_UP, hlow _ (by omega)]; exact h4
  · rw [mP_UP, if_neg (fun q => by omega), hlowP _ (by omega)]; exact h5
  · rw [mP_UP, if_neg (fun q => by omega), hlowP _ (by omega)]; exact h6
  · rw [mS_UP, hlow _ (by omega)]; exact h7
  · rw [mS_UP, hlow _ (by omega)]; exact h8
  · have e1 := h9.trans ((Ext_new m 6 (mN 6)).mono (lo' := f + 1) (by omega)) (Nat.le_refl _)
    have e2 := e1.trans (g5.mono (lo' := f + 1) (by omega)) (Nat.le_refl _)
    exact e2.trans ((Ext_ref m2 (f + 2) i _).mono (by omega)) (Nat.le_refl _)
  · obtain ⟨k1, k2⟩ := h10 j hj
    refine ⟨by rw [mP_UP, if_neg (fun z => by omega), hlowP _ (by omega)]; exact k1, k2.congr (fun q q1 q2 => ?_) (fun q q1 q2 => ?_)⟩
    · rw [mS_UP]; exact hlow q (by omega)
    · funext k; rw [mP_UP, if_neg (fun z => by omega), hlowP _ (by omega)]
  · by_cases hji : j = i
    · subst hji
      refine ⟨by rw [mP_UP, if_pos ⟨rfl, rfl⟩], g4.congr (fun q _ _ => rfl) (fun q q1 q2 => ?_)⟩
      funext k; rw [mP_UP, if_neg (fun z => by omega)]
    · obtain ⟨k1, k2⟩ := h11 j (by omega)
      refine ⟨by rw [mP_UP, if_neg (fun z => hji z.2), hlowP _ (by omega)]; exact k1, k2.congr (fun q q1 q2 => ?_) (fun q q1 q2 => ?_)⟩
      · rw [mS_UP]; exact hlow q (by omega)
      · funext k; rw [mP_UP, if_neg (fun z => by omega), hlowP _ (by omega)]
/-- what a new fabric holds -/
def FabNew (f : Nat) (μ μ' : mM) : Prop := mI μ' f = (fun k => if k = 2 then 3 else mI μ f k) ∧ (∀ q, q < f → mI μ' q = mI μ q) ∧ (∀ q, q ≤ f → mF μ' q = mF μ q ∧ mJ μ' q = mJ μ q) ∧ (∀ q, f < q → q < f + 181 → ∀ k, mI μ' q k = (if q = f + 3 ∧ k = 0 then 1 else if q = f + 3 ∧ k = 1 then 4 else if q = f + 3 ∧ k = 2 then 3 else 0) ∧ mF μ' q k = 0 ∧ mJ μ' q k = 0)
theorem FabL_P {S : LyS} {P : LyP} {f : Nat} (h : FabL S P f) {r : Nat} (hr : r < 8) : P (f + 1) r = f + 3 + 6 * r := (h.2.2.2.2.2.1 r hr).1
theorem c12 {μ : mM} {f : Nat} (hf : 2 ≤ f) (hS : mS μ f = (1, 7)) (hN : mNx μ = f + 1) : ∃ μ', s12 μ f = some μ' ∧ mNx μ' = f + 181 ∧ mSl μ' = mSl μ + 870 ∧ FabL (mS μ') (mP μ') f ∧ FabNew f μ μ' ∧ (∀ q, q ≤ f → mS μ' q = mS μ q) ∧ (∀ q, f + 181 ≤ q → mS μ' q = mS μ q) ∧ ∀ q, q < f → mP μ' q = mP μ q := by
  have h0 : ¬ f = 0 := by omega
  obtain ⟨μ8, e8⟩ : ∃ m, m = mUI (mFld (mFld μ f 0 24 8) f 1 26 10) f 2 3 := ⟨_, rfl⟩
  have b1 : mNx μ8 = f + 3 := by rw [e8, mNx_UI, mNx_fld, mNx_fld, hN]
  have b2 : mSl μ8 = mSl μ + 18 := by rw [e8, mSl_UI, mSl_fld, mSl_fld]
  have b3 : mS μ8 f = (1, 7) := by rw [e8]; simp [mS_UI, mS_fld, mNx_fld, hN, hS, Nat.add_assoc]
  have b4 : mP μ8 f 0 = f + 1 := by rw [e8]; simp [mP_UI, mP_fld, mNx_fld, hN, Nat.add_assoc]
  have b5 : mP μ8 f 1 = f + 2 := by rw [e8]; simp [mP_UI, mP_fld, mNx_fld, hN]
  have b6 : mS μ8 (f + 1) = (24, 8) := by rw [e8]; simp [mS_UI, mS_fld, mNx_fld, hN]
  have b7 : mS μ8 (f + 2) = (26, 10) := by rw [e8]; simp [mS_UI, mS_fld, mNx_fld, hN]
  have hE : Ext f μ (mFld (mFld μ f 0 24 8) f 1 26 10) := (Ext_fld (by omega) 0 24 8).trans (Ext_fld (by rw [mNx_fld]; omega) 1 26 10) (Nat.le_refl _)
  have hI0 : FabI f μ8 0 (0, μ8) := ⟨rfl, b1, (by show mSl μ8 = mSl μ8 + 24 * 0; omega), b3, b4, b5, b6, b7, ⟨Nat.le_refl _, fun q _ => ⟨rfl, rfl, rfl, rfl⟩, fun q h1 h2 => absurd (show q < mNx μ8 from h2) (by omega), fun q _ => rfl, fun q _ => rfl⟩, fun j hj => by omega⟩
  obtain ⟨o1, l1, l2⟩ := mLoop_inv0 (b := s12L15 f) (FabI f μ8) 8 (fun o => ∃ m, o = .inl m ∧ FabI f μ8 8 (nI 8, m)) (fun i s hi hI => Or.inl (c12_step hf hi hI)) (fun s hI => by
    obtain ⟨x, m⟩ := s
    have hx : x = nI 8 := hI.1
    subst hx
    exact ⟨.inl m, by simp only [s12L15]; rw [if_pos (by decide)], m, rfl, hI⟩) hI0 (n := 1000) (by omega)
  obtain ⟨m1, rfl, hI8⟩ := l2
  obtain ⟨-, i2, i3, i4, i5, i6, i7, i8, i9, i10⟩ := hI8
  simp only at i2 i3 i4 i5 i6 i7 i8 i9 i10
  have hJ0 : FabJ f μ8 0 (0, m1) := ⟨rfl, by simp only; omega, by simp only; omega, i4, i5, i6, i7, i8, i9, i10, fun j hj => by omega⟩
  obtain ⟨o2, l3, l4⟩ := mLoop_inv0 (b := s12L29 f) (FabJ f μ8) 10 (fun o => ∃ m, o = .inl m ∧ FabJ f μ8 10 (nI 10, m)) (fun i s hi hI => Or.inl (c12_stepT hf hi hI)) (fun s hI => by
    obtain ⟨x, m⟩ := s
    have hx : x = nI 10 := hI.1
    subst hx
    exact ⟨.inl m, by simp only [s12L29]; rw [if_pos (by decide)], m, rfl, hI⟩) hJ0 (n := 1000) (by omega)
  obtain ⟨m2, rfl, hJ⟩ := l4
  obtain ⟨-, j2, j3, j4, j5, j6, j7, j8, j9, j10, j11⟩ := hJ
  simp only at j2 j3 j4 j5 j6 j7 j8 j9 j10 j11
  have r0 : mP m2 (f + 1) 0 = f + 3 := (j10 0 (by omega)).1
  have r1 : mS m2 (f + 3) = (4, 7) := (j10 0 (by omega)).2.1
  refine ⟨mUI (mUI (mUI m2 (f + 3) 0 1) (f + 3) 1 4) (f + 3) 2 3, ?_, ?_, ?_, ?_, ?_, ?_, ?_, ?_⟩
  · have e0 : mInb 0 8 := mInb_nI (j := 0) (n := 8) (by omega) (by omega)
    have a1 : mS (mNew μ 24 8) f = (1, 7) := by rw [mS_Nw, if_neg (by omega)]; exact hS
    have a2 : mS (mNew (mUP (mNew μ 24 8) f 0 (f + 1)) 26 10) f = (1, 7) := by rw [mS_Nw, mNx_UP, mNx_Nw, if_neg (by omega), mS_UP]; exact a1
    have a3 : mUI (mUP (mNew (mUP (mNew μ 24 8) f 0 (f + 1)) 26 10) f 1 (f + 1 + 1)) f 2 3 = μ8 := by rw [e8]; simp only [mFld, mNx_UP, mNx_Nw, hN]
    simp only [s12, if_pos h0, hN, e_8, e_10, Option.bind_some, a1, if_true, mNx_UP, mNx_Nw, a2, a3, l1, Sum.elim_inl, l3, j4, j5, j7, r0, r1, e_0, e0, mS_UI, mP_UI]
    simp
  · rw [mNx_UI, mNx_UI, mNx_UI, j2]
  · rw [mSl_UI, mSl_UI, mSl_UI, j3, b2]
  · exact ⟨j4, j5, j6, j7, j8, j10, j11⟩
  · refine ⟨?_, fun q hq => ?_, fun q hq => ?_, fun q hq1 hq2 k => ?_⟩
    · funext k
      rw [mI_UI, if_neg (by omega), mI_UI, if_neg (by omega), mI_UI, if_neg (by omega), (j9.2.1 f (by omega)).1, e8, mI_UI]
      by_cases hk : k = 2
      · simp [hk]
      · rw [if_neg (fun z => hk z.2), if_neg hk, (hE.2.1 f (by omega)).1]
    · funext k
      rw [mI_UI, if_neg (by omega), mI_UI, if_neg (by omega), mI_UI, if_neg (by omega), (j9.2.1 q (by omega)).1, e8, mI_UI, if_neg (by omega), (hE.2.1 q (by omega)).1]
    · exact ⟨by rw [mF_UI, mF_UI, mF_UI, (j9.2.1 q (by omega)).2.1, e8, mF_UI, (hE.2.1 q (by omega)).2.1], by rw [mJ_UI, mJ_UI, mJ_UI, (j9.2.1 q (by omega)).2.2.1, e8, mJ_UI, (hE.2.1 q (by omega)).2.2.1]⟩
    · have hz : mI m2 q k = 0 ∧ mF m2 q k = 0 ∧ mJ m2 q k = 0 := by
        by_cases hq : q < f + 3
        · have hn : mNx (mFld (mFld μ f 0 24 8) f 1 26 10) = f + 3 := by rw [mNx_fld, mNx_fld, hN]
          obtain ⟨c1, c2, c3⟩ := hE.2.2.1 q (by omega) (by omega) k
          obtain ⟨d1, d2, d3, -⟩ := j9.2.1 q (by omega)
          exact ⟨by rw [d1, e8, mI_UI, if_neg (by omega)]; exact c1, by rw [d2, e8, mF_UI]; exact c2, by rw [d3, e8, mJ_UI]; exact c3⟩
        · exact j9.2.2.1 q (by omega) (by omega) k
      refine ⟨?_, by rw [mF_UI, mF_UI, mF_UI]; exact hz.2.1, by rw [mJ_UI, mJ_UI, mJ_UI]; exact hz.2.2⟩
      rw [mI_UI, mI_UI, mI_UI, hz.1]
      by_cases c1 : q = f + 3 ∧ k = 0
      · obtain ⟨rfl, rfl⟩ := c1; simp
      · by_cases c2 : q = f + 3 ∧ k = 1
        · obtain ⟨rfl, rfl⟩ := c2; simp
        · by_cases c3 : q = f + 3 ∧ k = 2
          · obtain ⟨rfl, rfl⟩ := c3; simp
          · simp [c1, c2, c3]
  · intro q hq
    rw [mS_UI, mS_UI, mS_UI, (j9.2.1 q (by omega)).2.2.2, e8, mS_UI, (hE.2.1 q (by omega)).2.2.2]
  · intro q hq
    rw [mS_UI, mS_UI, mS_UI, j9.2.2.2.1 q (by omega), e8, mS_UI, hE.2.2.2.1 q (by rw [mNx_fld, mNx_fld, hN]; omega)]
  · intro q hq
    rw [mP_UI, mP_UI, mP_UI, j9.2.2.2.2 q (by omega), e8, mP_UI, hE.2.2.2.2 q hq]
