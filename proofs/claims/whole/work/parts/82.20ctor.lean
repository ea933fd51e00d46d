/-! constructors: what they make -/
abbrev LyS : Type := Nat → Nat × Nat
abbrev LyP : Type := Nat → Nat → Nat
def WayL (S : LyS) (P : LyP) (w : Nat) : Prop := S w = (7, 9) ∧ P w 4 = w + 1 ∧ P w 5 = w + 2 ∧ P w 6 = w + 3 ∧ P w 7 = w + 4 ∧ P w 8 = w + 5 ∧ S (w + 1) = (10, 4) ∧ S (w + 2) = (10, 4) ∧ S (w + 3) = (10, 4) ∧ S (w + 4) = (10, 4) ∧ S (w + 5) = (10, 4)
def LinkL (S : LyS) (P : LyP) (k : Nat) : Prop := S k = (2, 9) ∧ P k 5 = k + 1 ∧ P k 6 = k + 2 ∧ P k 7 = k + 3 ∧ P k 8 = k + 4 ∧ S (k + 1) = (10, 2) ∧ S (k + 2) = (10, 2) ∧ S (k + 3) = (10, 2) ∧ S (k + 4) = (11, 2)
def TunL (S : LyS) (P : LyP) (t : Nat) : Prop := S t = (6, 8) ∧ P t 6 = t + 1 ∧ P t 7 = t + 7 ∧ WayL S P (t + 1) ∧ WayL S P (t + 7)
def RouL (S : LyS) (P : LyP) (r : Nat) : Prop := S r = (4, 7) ∧ P r 6 = r + 1 ∧ LinkL S P (r + 1)
def FabL (S : LyS) (P : LyP) (f : Nat) : Prop := S f = (1, 7) ∧ P f 0 = f + 1 ∧ P f 1 = f + 2 ∧ S (f + 1) = (24, 8) ∧ S (f + 2) = (26, 10) ∧ (∀ j, j < 8 → P (f + 1) j = f + 3 + 6 * j ∧ RouL S P (f + 3 + 6 * j)) ∧ ∀ t, t < 10 → P (f + 2) t = f + 51 + 13 * t ∧ TunL S P (f + 51 + 13 * t)
/-- memory grew: what was there is there; what is new holds 0; references in cells below lo are as they were -/
def Ext (lo : Nat) (μ μ' : mM) : Prop := mNx μ ≤ mNx μ' ∧ (∀ q, q < mNx μ → mI μ' q = mI μ q ∧ mF μ' q = mF μ q ∧ mJ μ' q = mJ μ q ∧ mS μ' q = mS μ q) ∧ (∀ q, mNx μ ≤ q → q < mNx μ' → ∀ k, mI μ' q k = 0 ∧ mF μ' q k = 0 ∧ mJ μ' q k = 0) ∧ (∀ q, mNx μ' ≤ q → mS μ' q = mS μ q) ∧ ∀ q, q < lo → mP μ' q = mP μ q
theorem Ext.trans {lo lo' : Nat} {μ μ1 μ2 : mM} (h1 : Ext lo μ μ1) (h2 : Ext lo' μ1 μ2) (hl : lo ≤ lo') : Ext lo μ μ2 := by
  obtain ⟨a1, a2, a3, a4, a5⟩ := h1
  obtain ⟨b1, b2, b3, b4, b5⟩ := h2
  refine ⟨by omega, fun q hq => ?_, fun q hq1 hq2 k => ?_, fun q hq => ?_, fun q hq => ?_⟩
  · obtain ⟨c1, c2, c3, c4⟩ := a2 q hq
    obtain ⟨d1, d2, d3, d4⟩ := b2 q (by omega)
    exact ⟨d1.trans c1, d2.trans c2, d3.trans c3, d4.trans c4⟩
  · by_cases h : q < mNx μ1
    · obtain ⟨d1, d2, d3, -⟩ := b2 q h
      obtain ⟨c1, c2, c3⟩ := a3 q hq1 h k
      exact ⟨by rw [d1]; exact c1, by rw [d2]; exact c2, by rw [d3]; exact c3⟩
    · exact b3 q (by omega) hq2 k
  · rw [b4 q hq, a4 q (by omega)]
  · rw [b5 q (by omega), a5 q hq]
/-- one new cell -/
theorem Ext_new (μ : mM) (t n : Nat) : Ext (mNx μ) μ (mNew μ t n) := by
  refine ⟨by rw [mNx_Nw]; omega, fun q hq => ?_, fun q hq1 hq2 k => ?_, fun q hq => ?_, fun q hq => ?_⟩
  · refine ⟨?_, ?_, ?_, ?_⟩
    · funext j; rw [mI_Nw, if_neg (by omega)]
    · funext j; rw [mF_Nw, if_neg (by omega)]
    · funext j; rw [mJ_Nw, if_neg (by omega)]
    · rw [mS_Nw, if_neg (by omega)]
  · rw [mNx_Nw] at hq2
    have : q = mNx μ := by omega
    subst this
    exact ⟨by rw [mI_Nw, if_pos rfl], by rw [mF_Nw, if_pos rfl], by rw [mJ_Nw, if_pos rfl]⟩
  · rw [mNx_Nw] at hq
    rw [mS_Nw, if_neg (by omega)]
  · funext j; rw [mP_Nw, if_neg (by omega)]
/-- a reference laid -/
theorem Ext_ref (μ : mM) (a k q : Nat) : Ext a μ (mUP μ a k q) := by
  refine ⟨Nat.le_refl _, fun q hq => ⟨rfl, rfl, rfl, rfl⟩, fun q h1 h2 => absurd h2 (by rw [mNx_UP]; omega), fun q _ => rfl, fun b hb => ?_⟩
  funext j; rw [mP_UP, if_neg (fun h => by omega)]
theorem Ext.mono {lo lo' : Nat} {μ μ1 : mM} (h : Ext lo μ μ1) (hl : lo' ≤ lo) : Ext lo' μ μ1 := ⟨h.1, h.2.1, h.2.2.1, h.2.2.2.1, fun q hq => h.2.2.2.2 q (by omega)⟩
/-- a new array of a field: the cell, then the reference to it -/
def mFld (μ : mM) (a k t n : Nat) : mM := mUP (mNew μ t n) a k (mNx μ)
theorem Ext_fld {μ : mM} {a : Nat} (ha : a < mNx μ) (k t n : Nat) : Ext a μ (mFld μ a k t n) := ((Ext_new μ t n).mono (by omega)).trans (Ext_ref _ a k _) (Nat.le_refl _)
section FL
variable {μ : mM} {a k t n b j : Nat}
theorem mI_fld : mI (mFld μ a k t n) b j = if b = mNx μ then 0 else mI μ b j := rfl
theorem mF_fld : mF (mFld μ a k t n) b j = if b = mNx μ then 0 else mF μ b j := rfl
theorem mS_fld : mS (mFld μ a k t n) b = if b = mNx μ then (t, n) else mS μ b := rfl
theorem mP_fld : mP (mFld μ a k t n) b j = if b = a ∧ j = k then mNx μ else if b = mNx μ then 0 else mP μ b j := rfl
theorem mNx_fld : mNx (mFld μ a k t n) = mNx μ + 1 := rfl
theorem mSl_fld : mSl (mFld μ a k t n) = mSl μ + n := rfl
end FL
theorem e_2 : Int32.toNatClampNeg 2 = 2 := rfl
theorem e_4 : Int32.toNatClampNeg 4 = 4 := rfl
theorem e_6 : Int32.toNatClampNeg 6 = 6 := rfl
theorem e_8 : Int32.toNatClampNeg 8 = 8 := rfl
theorem e_10 : Int32.toNatClampNeg 10 = 10 := rfl
theorem e_60 : Int32.toNatClampNeg 60 = 60 := rfl
theorem e_0 : Int32.toNatClampNeg 0 = 0 := rfl
/-- Way() -/
theorem c86 {μ : mM} {a : Nat} (hS : mS μ a = (7, 9)) (hN : mNx μ = a + 1) (h0 : ¬ a = 0) : ∃ μ', s86 μ a = some μ' ∧ mNx μ' = a + 6 ∧ mSl μ' = mSl μ + 20 ∧ WayL (mS μ') (mP μ') a ∧ Ext a μ μ' := by
  refine ⟨mFld (mFld (mFld (mFld (mFld μ a 4 10 4) a 5 10 4) a 6 10 4) a 7 10 4) a 8 10 4, ?_, ?_, ?_, ?_, ?_⟩
  · simp [s86, h0, mS_Nw, mS_UP, mNx_Nw, mNx_UP, hN, hS, mFld, e_4, Nat.add_assoc]
  · simp [mNx_fld, hN]
  · simp [mSl_fld]
  · simp [WayL, mS_fld, mP_fld, mNx_fld, hN, hS, Nat.add_assoc]
  · refine (Ext_fld ?_ 4 10 4).trans ((Ext_fld ?_ 5 10 4).trans ((Ext_fld ?_ 6 10 4).trans ((Ext_fld ?_ 7 10 4).trans (Ext_fld ?_ 8 10 4) (Nat.le_refl _)) (Nat.le_refl _)) (Nat.le_refl _)) (Nat.le_refl _)
    all_goals (simp only [mNx_fld, hN]; omega)
/-- Link() -/
theorem c51 {μ : mM} {a : Nat} (hS : mS μ a = (2, 9)) (hN : mNx μ = a + 1) (h0 : ¬ a = 0) : ∃ μ', s51 μ a = some μ' ∧ mNx μ' = a + 5 ∧ mSl μ' = mSl μ + 8 ∧ LinkL (mS μ') (mP μ') a ∧ Ext a μ μ' := by
  refine ⟨mFld (mFld (mFld (mFld μ a 5 10 2) a 6 10 2) a 7 10 2) a 8 11 2, ?_, ?_, ?_, ?_, ?_⟩
  · simp [s51, h0, mS_Nw, mS_UP, mNx_Nw, mNx_UP, hN, hS, mFld, e_2, Nat.add_assoc]
  · simp [mNx_fld, hN]
  · simp [mSl_fld]
  · simp [LinkL, mS_fld, mP_fld, mNx_fld, hN, hS, Nat.add_assoc]
  · refine (Ext_fld ?_ 5 10 2).trans ((Ext_fld ?_ 6 10 2).trans ((Ext_fld ?_ 7 10 2).trans (Ext_fld ?_ 8 11 2) (Nat.le_refl _)) (Nat.le_refl _)) (Nat.le_refl _)
    all_goals (simp only [mNx_fld, hN]; omega)
theorem WayL.congr {S S' : LyS} {P P' : LyP} {w : Nat} (h : WayL S P w) (hS : ∀ q, w ≤ q → q < w + 6 → S' q = S q) (hP : P' w = P w) : WayL S' P' w := by
  obtain ⟨h1, h2, h3, h4, h5, h6, h7, h8, h9, h10, h11⟩ := h
  exact ⟨by rw [hS w (by omega) (by omega)]; exact h1, by rw [hP]; exact h2, by rw [hP]; exact h3, by rw [hP]; exact h4, by rw [hP]; exact h5, by rw [hP]; exact h6, by rw [hS _ (by omega) (by omega)]; exact h7, by rw [hS _ (by omega) (by omega)]; exact h8, by rw [hS _ (by omega) (by omega)]; exact h9, by rw [hS _ (by omega) (by omega)]; exact h10, by rw [hS _ (by omega) (by omega)]; exact h11⟩
theorem LinkL.congr {S S' : LyS} {P P' : LyP} {w : Nat} (h : LinkL S P w) (hS : ∀ q, w ≤ q → q < w + 5 → S' q = S q) (hP : P' w = P w) : LinkL S' P' w := by
  obtain ⟨h1, h2, h3, h4, h5, h6, h7, h8, h9⟩ := h
  exact ⟨by rw [hS w (by omega) (by omega)]; exact h1, by rw [hP]; exact h2, by rw [hP]; exact h3, by rw [hP]; exact h4, by rw [hP]; exact h5, by rw [hS _ (by omega) (by omega)]; exact h6, by rw [hS _ (by omega) (by omega)]; exact h7, by rw [hS _ (by omega) (by omega)]; exact h8, by rw [hS _ (by omega) (by omega)]; exact h9⟩
/-- Router() -/
theorem c69 {μ : mM} {a : Nat} (hS : mS μ a = (4, 7)) (hN : mNx μ = a + 1) (h0 : ¬ a = 0) : ∃ μ', s69 μ a = some μ' ∧ mNx μ' = a + 6 ∧ mSl μ' = mSl μ + 17 ∧ RouL (mS μ') (mP μ') a ∧ Ext a μ μ' := by
  obtain ⟨μ1, h1, h2, h3, h4, h5⟩ := c51 (μ := mNew μ 2 (mN 2)) (a := a + 1) (by simp [mS_Nw, hN]; rfl) (by simp [mNx_Nw, hN]) (by omega)
  have hSa : mS μ1 a = (4, 7) := by
    rw [(h5.2.1 a (by rw [mNx_Nw]; omega)).2.2.2, mS_Nw, if_neg (by omega), hS]
  refine ⟨mUP μ1 a 6 (a + 1), ?_, ?_, ?_, ?_, ?_⟩
  · simp [s69, h0, hN, mS_Nw, h1, hSa]
  · rw [mNx_UP, h2]
  · rw [mSl_UP, h3, mSl_Nw]; rfl
  · refine ⟨by rw [mS_UP]; exact hSa, by simp [mP_UP], h4.congr (fun q _ _ => rfl) ?_⟩
    funext j; rw [mP_UP, if_neg (fun q => by omega)]
  · refine (((Ext_new μ 2 (mN 2)).mono (by omega)).trans (h5.mono (by omega)) (Nat.le_refl _)).trans (Ext_ref μ1 a 6 (a + 1)) (Nat.le_refl _)
/-- Tunnel() -/
theorem c77 {μ : mM} {a : Nat} (hS : mS μ a = (6, 8)) (hN : mNx μ = a + 1) (h0 : ¬ a = 0) : ∃ μ', s77 μ a = some μ' ∧ mNx μ' = a + 13 ∧ mSl μ' = mSl μ + 58 ∧ TunL (mS μ') (mP μ') a ∧ Ext a μ μ' := by
  obtain ⟨μ1, h1, h2, h3, h4, h5⟩ := c86 (μ := mNew μ 7 (mN 7)) (a := a + 1) (by simp [mS_Nw, hN]; rfl) (by simp [mNx_Nw, hN]) (by omega)
  have hSa : mS μ1 a = (6, 8) := by
    rw [(h5.2.1 a (by rw [mNx_Nw]; omega)).2.2.2, mS_Nw, if_neg (by omega), hS]
  obtain ⟨μ2, g1, g2, g3, g4, g5⟩ := c86 (μ := mNew (mUP μ1 a 6 (a + 1)) 7 (mN 7)) (a := a + 7) (by simp [mS_Nw, mNx_UP, h2]; rfl) (by simp [mNx_Nw, mNx_UP, h2]) (by omega)
  have hSb : mS μ2 a = (6, 8) := by
    rw [(g5.2.1 a (by rw [mNx_Nw, mNx_UP, h2]; omega)).2.2.2, mS_Nw, mNx_UP, h2, if_neg (by omega), mS_UP, hSa]
  have hPold : ∀ q, q < a + 7 → mP μ2 q = mP (mUP μ1 a 6 (a + 1)) q := by
    intro q hq
    rw [g5.2.2.2.2 q hq]
    funext j; rw [mP_Nw, mNx_UP, h2, if_neg (by omega)]
  have hSold : ∀ q, q < a + 7 → mS μ2 q = mS μ1 q := by
    intro q hq
    rw [(g5.2.1 q (by rw [mNx_Nw, mNx_UP, h2]; omega)).2.2.2, mS_Nw, mNx_UP, h2, if_neg (by omega), mS_UP]
  refine ⟨mUP μ2 a 7 (a + 7), ?_, ?_, ?_, ?_, ?_⟩
  · simp [s77, h0, hN, mS_Nw, h1, hSa, mNx_UP, h2, g1, hSb]
  · rw [mNx_UP, g2]
  · rw [mSl_UP, g3, mSl_Nw, mSl_UP, h3, mSl_Nw]; rfl
  · refine ⟨by rw [mS_UP]; exact hSb, ?_, by simp [mP_UP], ?_, ?_⟩
    · rw [mP_UP, if_neg (by omega), hPold a (by omega)]; simp [mP_UP]
    · refine h4.congr (fun q q1 q2 => ?_) ?_
      · rw [mS_UP]; exact hSold q (by omega)
      · funext j
        rw [mP_UP, if_neg (fun q => by omega), hPold _ (by omega), mP_UP, if_neg (fun q => by omega)]
    · refine g4.congr (fun q _ _ => rfl) ?_
      funext j; rw [mP_UP, if_neg (fun q => by omega)]
  · have e1 : Ext a μ μ1 := ((Ext_new μ 7 (mN 7)).mono (by omega)).trans (h5.mono (by omega)) (Nat.le_refl _)
    have e2 := e1.trans (Ext_ref μ1 a 6 (a + 1)) (Nat.le_refl _)
    have e3 := e2.trans ((Ext_new (mUP μ1 a 6 (a + 1)) 7 (mN 7)).mono (lo' := a) (by rw [mNx_UP, h2]; omega)) (Nat.le_refl _)
    have e4 := e3.trans (g5.mono (by omega)) (Nat.le_refl _)
    exact e4.trans (Ext_ref μ2 a 7 (a + 7)) (Nat.le_refl _)
