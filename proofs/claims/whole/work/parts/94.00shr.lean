/-! fair shares: what both sides compute -/
section SH
variable {μ ν : mM} {A : Ab} {r t d i n : Nat} {l s : Nat → UInt32} {ac : Nat → Bool}
/-- the weight of the active tunnels over a link -/
def sW (A : Ab) (ac : Nat → Bool) (r n : Nat) : Nat := sumN (fun t => if ac t = true ∧ us A t r 0 = true then wgt A t else 0) n
theorem wgt_le : 1 ≤ wgt A t ∧ wgt A t ≤ 2 := by unfold wgt; split <;> omega
theorem sW_succ : sW A ac r (n + 1) = sW A ac r n + if ac n = true ∧ us A n r 0 = true then wgt A n else 0 := rfl
theorem sW_le : sW A ac r n ≤ 2 * n := by
  induction n with
  | zero => exact Nat.le_refl _
  | succ n ih =>
    rw [sW_succ]
    have := wgt_le (A := A) (t := n)
    split <;> omega
/-- the active tunnels are open and no video -/
def AC (A : Ab) (ac : Nat → Bool) : Prop := ∀ t, t < 10 → ac t = true → aT A t 0 = 1 ∧ ¬ aT A t 1 = 0
theorem ac_us (h : AC A ac) (ht : t < 10) (ha : ac t = true) : us A t r d = us A t r 0 := by
  obtain ⟨h1, h2⟩ := h t ht ha
  have e : (aT A t 1 == 0) = false := by simp [h2]
  unfold us
  rw [e]
  cases hd : (d == 0) <;> simp
theorem sW_abs (ht : WFt A) (hu : WFu A) (h : ¬ aR A r 0 = 1) : ∀ n, n ≤ 10 → sW A ac r n = 0
  | 0, _ => rfl
  | n + 1, hn => by
    rw [sW_succ, sW_abs ht hu h n (by omega), if_neg]
    rintro ⟨-, z⟩
    exact h (us_hx ht hu (by omega) (by omega) z).2.2.2.2.2.2.2.2
/-- the numbers as floats -/
theorem i2_add : ∀ a : Fin 19, ∀ w : Fin 3, FP.fadd (FP.i2f (nI a.val)) (FP.i2f (nI w.val)) = FP.i2f (nI (a.val + w.val)) := by decide +kernel
theorem i2_nn : ∀ a : Fin 21, FP.i2f (nI a.val) &&& 0x7fffffff ≤ 0x7f800000 := by decide +kernel
theorem i2_lo : ∀ a : Fin 20, 2 ^ 149 ≤ fV (FP.i2f (nI (a.val + 1))).toNat ∧ 0 < fC (FP.i2f (nI (a.val + 1))).toNat ∧ (FP.i2f (nI (a.val + 1))).toNat < 2139095040 ∧ ¬ Op.cmpValue (FP.fcmp (FP.i2f (nI (a.val + 1))) FP.fconst0) CmpOp.l ≤ 0 := by decide +kernel
theorem i2_12 : ∀ a : Fin 13, (FP.i2f (nI a.val)).toNat ≤ 1094713344 := by decide +kernel
theorem i2_w : FP.i2f (nI 1) = FP.fconst1 ∧ FP.i2f (nI 2) = FP.fconst2 ∧ FP.i2f (nI 0) = FP.fconst0 := by decide +kernel
theorem i2_z : Op.cmpValue (FP.fcmp (FP.i2f (nI 0)) FP.fconst0) CmpOp.l ≤ 0 := by decide +kernel
theorem q_ok {x : UInt32} {w : Nat} (hx : x.toNat ≤ 1094713344) (h1 : 1 ≤ w) (h2 : w ≤ 20) : (FP.fdiv x (FP.i2f (nI w))).toNat ≤ 1094713344 := by
  obtain ⟨a1, a2, a3, -⟩ := i2_lo ⟨w - 1, by omega⟩
  have e : w - 1 + 1 = w := by omega
  simp only [e] at a1 a2 a3
  exact fdiv_le (by omega) a3 (by omega) a2 (Nat.mul_le_mul (fV_mono hx) a1)
theorem fm_w : fV 1094713344 * fV (FP.i2f (nI 1)).toNat ≤ fV 1103101952 * 2 ^ 149 ∧ fV 1094713344 * fV (FP.i2f (nI 2)).toNat ≤ fV 1103101952 * 2 ^ 149 ∧ (FP.i2f (nI 1)).toNat < 2139095040 ∧ (FP.i2f (nI 2)).toNat < 2139095040 := by decide +kernel
theorem m_ok {x : UInt32} (hx : x.toNat ≤ 1094713344) : (FP.fmul x (FP.i2f (nI (wgt A t)))).toNat ≤ 1103101952 := by
  obtain ⟨a1, a2, a3, a4⟩ := fm_w
  have := wgt_le (A := A) (t := t)
  have : wgt A t = 1 ∨ wgt A t = 2 := by omega
  rcases this with e | e <;> rw [e]
  · exact fmul_le (by omega) a3 (by omega) (Nat.le_trans (Nat.mul_le_mul (fV_mono hx) (Nat.le_refl _)) a1)
  · exact fmul_le (by omega) a4 (by omega) (Nat.le_trans (Nat.mul_le_mul (fV_mono hx) (Nat.le_refl _)) a2)
/-- what is left after one takes -/
def tkf (x y : UInt32) : UInt32 := if 0 ≤ Op.cmpValue (FP.fcmp (FP.fsub x y) FP.fconst0) CmpOp.g then FP.fsub x y else FP.fconst0
theorem tkf_ok {x y : UInt32} (hx : x.toNat ≤ 1094713344) (hy : y.toNat ≤ 1103101952) : (tkf x y).toNat ≤ 1094713344 ∧ FP.fsub x y &&& 0x7fffffff ≤ 0x7f800000 := by
  rcases fsub_or (x := x) (y := y) (m := 1103101952) (by omega) hy (by omega) with h | ⟨n, n0, n1, n2⟩
  · refine ⟨?_, nn_le h (by omega)⟩
    unfold tkf
    split
    · omega
    · rw [c0N]; omega
  · refine ⟨?_, nn_neg n2 (by omega)⟩
    unfold tkf
    rw [fcmp_neg n2 n0 (by omega), cv_lt, if_neg (by decide), c0N]; omega
/-- left, shares, active -/
def SX (A : Ab) (a : Nat) (μ : mM) (l s : Nat → UInt32) (ac : Nat → Bool) : Prop := (∀ r, 1 ≤ r → r < 8 → aR A r 0 = 1 → mF μ a r = l r) ∧ (∀ t, t < 10 → mF μ (a + 1) t = s t) ∧ ∀ t, t < 10 → mI μ (a + 2) t = bI (ac t)
theorem SX.fr {a lo hi : Nat} (h : SX A a μ l s ac) (hf : Fr lo hi μ ν) (hh : hi ≤ a ∨ a + 3 ≤ lo) : SX A a ν l s ac := by
  obtain ⟨h1, h2, h3⟩ := h
  unfold SX
  rw [(hf.2 a (by omega)).2, (hf.2 (a + 1) (by omega)).2, (hf.2 (a + 2) (by omega)).1]; exact ⟨h1, h2, h3⟩
theorem sh_s (hK : ClsL (mS μ) (mP μ)) : mS μ 195 = (5, 4) ∧ mP μ 195 0 = 196 ∧ mP μ 195 1 = 197 ∧ mP μ 195 2 = 198 ∧ mS μ 196 = (11, 8) ∧ mS μ 197 = (11, 10) ∧ mS μ 198 = (12, 10) := (ClsL.sh hK)
theorem j74 (hK : ClsL (mS μ) (mP μ)) (hC : CS μ 11 A) (ht : WFt A) (hu : WFu A) (hX : SX A 196 μ l s ac) (ha : AC A ac) (hr : r < 8) : s74 μ 195 11 (nI r) = some (nI (sW A ac r 10)) := by
  have hF := hC.1
  obtain ⟨p1, p2, p3, p4, p5, p6, p7⟩ := sh_s hK
  have e := mLoop_seq0 (b := s74L4 μ 195 11 (nI r)) (fun i => (nI (sW A ac r i), nI i)) 10 (o := .inl (nI (sW A ac r 10))) (fun i hi => by
    have mc := m_cl (show i < 2 ^ 31 by omega)
    unfold s74L4
    refine iteF (by show ¬ nI 10 ≤ nI i; rw [nI_leI (by omega) (by omega)]; omega) (iteT (by rw [p1]) (iteT (by rw [p4, p7]; exact ⟨rfl, (mInb_iff (by omega)).mpr hi⟩) ?_))
    have e0 : mI μ (mP μ 195 2) (Int32.toNatClampNeg (nI i)) = bI (ac i) := by rw [p4, mc]; exact hX.2.2 i hi
    simp only [sW_succ]
    by_cases a : ac i = true
    · refine iteF (by rw [e0, a]; decide) (iteT (by rw [FabL.s0 hF]) (iteT (by rw [FabL.p1 hF, FabL.s2 hF]; exact ⟨rfl, (mInb_iff (by omega)).mpr hi⟩) (iteT (by rw [FabL.p1 hF, mc, FabL.tp hF hi, FabL.ts hF hi]) (bindS (v := bI (us A i r 0)) (by rw [FabL.p1 hF, mc, FabL.tp hF hi]; exact j79 hC ht hu hi (by omega)) ?_))))
      by_cases b : us A i r 0 = true
      · refine iteF (by rw [b]; decide) (bindS (v := nI (wgt A i)) (by rw [FabL.p1 hF, mc, FabL.tp hF hi]; exact j82 hC hu hi (ha i hi a).1) ?_)
        rw [if_pos ⟨a, b⟩]
        show some (Sum.inl (nI _ + nI _, nI i + nI 1)) = _
        rw [nI_add, nI_add]
      · refine iteT (by rw [show us A i r 0 = false by simpa using b]; rfl) ?_
        rw [if_neg (fun z => b z.2)]
        show some (Sum.inl (nI _, nI i + nI 1)) = _
        rw [nI_add]; rfl
    · refine iteT (by rw [e0, show ac i = false by simpa using a]; rfl) ?_
      rw [if_neg (fun z => a z.1)]
      show some (Sum.inl (nI _, nI i + nI 1)) = _
      rw [nI_add]; rfl) (by
    unfold s74L4
    exact iteT (by show nI 10 ≤ nI 10; rw [nI_leI (by omega) (by omega)]; omega) rfl) (n := 1000) (by omega)
  unfold s74
  exact bindS e rfl
theorem k222 (hM : RS μ A) (hu : WFu A) (htt : t < 10) (ho : aT A t 0 = 1) : s222 μ 200 (nI t) = some (FP.i2f (nI (wgt A t))) := by
  have hR := hM.1
  obtain ⟨o1, -⟩ := hu.o htt ho
  unfold s222
  refine iteT (by rw [RefL.s hR]) (bindS (v := nI (aT A t 1)) (k159 hM htt (k := 1) (by omega)) ?_)
  unfold wgt
  by_cases e : aT A t 1 = 1
  · rw [if_pos e]
    refine iteF (by rw [e]; decide) ?_
    show some _ = _
    rw [i2_w.2.1]
  · rw [if_neg e]
    refine iteT (by show ¬ nI (aT A t 1) = nI 1; rw [nI_eq (by omega) (by omega)]; exact e) ?_
    show some _ = _
    rw [i2_w.1]
theorem k223 (hM : RS μ A) (ht : WFt A) (hu : WFu A) (hX : SX A 215 μ l s ac) (ha : AC A ac) (hr : r < 8) (hd : d < 2) : s223 μ 200 (nI r) (nI d) = some (FP.i2f (nI (sW A ac r 10))) := by
  have hR := hM.1
  have e := mLoop_seq0 (b := s223L4 μ 200 (nI r) (nI d)) (fun i => (FP.i2f (nI (sW A ac r i)), nI i)) 10 (o := .inl (FP.i2f (nI (sW A ac r 10)))) (fun i hi => by
    have mc := m_cl (show i < 2 ^ 31 by omega)
    unfold s223L4
    refine iteF (by show ¬ nI 10 ≤ nI i; rw [nI_leI (by omega) (by omega)]; omega) (iteT (by rw [RefL.s hR]) (iteT (by rw [RefL.r18 hR, RefL.a18 hR]; exact ⟨rfl, (mInb_iff (by omega)).mpr hi⟩) ?_))
    have e0 : mI μ (mP μ 200 18) (Int32.toNatClampNeg (nI i)) = bI (ac i) := by rw [RefL.r18 hR, mc]; exact hX.2.2 i hi
    simp only [sW_succ]
    by_cases a : ac i = true
    · refine iteF (by rw [e0, a]; decide) (bindS (v := bI (us A i r d)) (k162 hM ht hu hr hi (by omega)) ?_)
      rw [ac_us ha hi a]
      by_cases b : us A i r 0 = true
      · have w := wgt_le (A := A) (t := i)
        have z := sW_le (A := A) (ac := ac) (r := r) (n := i)
        have x1 : FP.fadd (FP.i2f (nI (sW A ac r i))) (FP.i2f (nI (wgt A i))) = FP.i2f (nI (sW A ac r i + wgt A i)) := i2_add ⟨sW A ac r i, by omega⟩ ⟨wgt A i, by omega⟩
        refine iteF (by rw [b]; decide) (bindS (v := FP.i2f (nI (wgt A i))) (k222 hM hu hi (ha i hi a).1) (iteT (by simp only [x1]; exact i2_nn ⟨sW A ac r i + wgt A i, by omega⟩) ?_))
        rw [if_pos ⟨a, b⟩]
        show some (Sum.inl (FP.fadd _ _, nI i + nI 1)) = _
        rw [x1, nI_add]
      · refine iteT (by rw [show us A i r 0 = false by simpa using b]; rfl) ?_
        rw [if_neg (fun z => b z.2)]
        show some (Sum.inl (FP.i2f (nI _), nI i + nI 1)) = _
        rw [nI_add]; rfl
    · refine iteT (by rw [e0, show ac i = false by simpa using a]; rfl) ?_
      rw [if_neg (fun z => a z.1)]
      show some (Sum.inl (FP.i2f (nI _), nI i + nI 1)) = _
      rw [nI_add]; rfl) (by
    unfold s223L4
    exact iteT (by show nI 10 ≤ nI 10; rw [nI_leI (by omega) (by omega)]; omega) rfl) (n := 1000) (by omega)
  unfold s223
  refine bindS (v := .inl (FP.i2f (nI (sW A ac r 10)))) ?_ rfl
  rw [← e]
  show mLoop _ _ (FP.fconst0, nI 0) = mLoop _ _ (FP.i2f (nI 0), nI 0)
  rw [i2_w.2.2]
/-- the narrowest link, and its level -/
def ch (A : Ab) (l : Nat → UInt32) (ac : Nat → Bool) : Nat → Nat × UInt32
  | 0 => (0, FP.fconst0)
  | n + 1 => if sW A ac (n + 1) 10 = 0 then ch A l ac n else if (ch A l ac n).1 = 0 ∨ ¬ 0 ≤ Op.cmpValue (FP.fcmp (FP.fdiv (l (n + 1)) (FP.i2f (nI (sW A ac (n + 1) 10)))) (ch A l ac n).2) CmpOp.g then (n + 1, FP.fdiv (l (n + 1)) (FP.i2f (nI (sW A ac (n + 1) 10)))) else ch A l ac n
/-- what is left is small -/
def BL (A : Ab) (l : Nat → UInt32) : Prop := ∀ r, 1 ≤ r → r < 8 → aR A r 0 = 1 → (l r).toNat ≤ 1094713344
theorem ch_ok (ht : WFt A) (hu : WFu A) : ∀ n, n < 8 → (ch A l ac n).1 ≤ n ∧ (¬ (ch A l ac n).1 = 0 → aR A (ch A l ac n).1 0 = 1 ∧ 1 ≤ sW A ac (ch A l ac n).1 10 ∧ (ch A l ac n).2 = FP.fdiv (l (ch A l ac n).1) (FP.i2f (nI (sW A ac (ch A l ac n).1 10))))
  | 0, _ => ⟨Nat.le_refl _, fun h => absurd rfl h⟩
  | n + 1, hn => by
    obtain ⟨h1, h2⟩ := ch_ok ht hu n (by omega)
    rw [ch]
    split
    · exact ⟨by omega, h2⟩
    · rename_i e
      split
      · refine ⟨Nat.le_refl _, fun _ => ⟨?_, Nat.pos_of_ne_zero e, rfl⟩⟩
        by_cases q : aR A (n + 1) 0 = 1
        · exact q
        · exact absurd (sW_abs ht hu q 10 (by omega)) e
      · exact ⟨by omega, h2⟩
def cI (n : Nat) : Int32 := if n = 0 then -1 else nI n
theorem cI_m {n : Nat} (h : n < 8) : (cI n = -1) ↔ n = 0 := by
  unfold cI
  constructor
  · intro e
    by_cases q : n = 0
    · exact q
    · rw [if_neg q] at e
      have : ∀ k : Fin 8, ¬ nI k.val = -1 := by decide
      exact absurd e (this ⟨n, h⟩)
  · intro e; rw [if_pos e]
theorem UF_2 {a k : Nat} {x y : UInt32} : mUF (mUF μ a k x) a k y = mUF μ a k y := by
  show (μ.1, mU (mU μ.2.1 a k x) a k y, _) = (μ.1, mU μ.2.1 a k y, _)
  congr 2
  funext b j
  show (if b = a ∧ j = k then y else if b = a ∧ j = k then x else μ.2.1 b j) = (if b = a ∧ j = k then y else μ.2.1 b j)
  split <;> rfl
theorem j73 (hK : ClsL (mS μ) (mP μ)) (hC : CS μ 11 A) (ht : WFt A) (hu : WFu A) (hX : SX A 196 μ l s ac) (ha : AC A ac) (hl : BL A l) : s73 μ 195 11 = some (cI (ch A l ac 7).1, mUF μ 195 3 (ch A l ac 7).2) := by
  have e := mLoop_seq0 (b := s73L7 195 11) (fun i => (cI (ch A l ac i).1, nI (i + 1), mUF μ 195 3 (ch A l ac i).2)) 7 (o := .inl (cI (ch A l ac 7).1, mUF μ 195 3 (ch A l ac 7).2)) (fun i hi => by
    obtain ⟨ν, hν⟩ : ∃ ν, ν = mUF μ 195 3 (ch A l ac i).2 := ⟨_, rfl⟩
    have f : Fr 195 196 μ ν := by rw [hν]; exact Fr_UF μ (by omega) (by omega) _ _
    have hK' := hK.fr f
    obtain ⟨p1, p2, p3, p4, p5, p6, p7⟩ := sh_s hK'
    have hC' : CS ν 11 A := hC.fr f (by omega)
    have hX' : SX A 196 ν l s ac := hX.fr f (by omega)
    have mc := m_cl (show i + 1 < 2 ^ 31 by omega)
    have lv : mF ν 195 3 = (ch A l ac i).2 := by rw [hν, mF_UF, if_pos ⟨rfl, rfl⟩]
    simp only [← hν]
    unfold s73L7
    refine iteF (by show ¬ nI 8 ≤ nI (i + 1); rw [nI_leI (by omega) (by omega)]; omega) (iteT (by rw [p1]) (bindS (j74 hK' hC' ht hu hX' ha (by omega)) ?_))
    have z := sW_le (A := A) (ac := ac) (r := i + 1) (n := 10)
    by_cases w : sW A ac (i + 1) 10 = 0
    · refine iteT (by rw [w]; decide) ?_
      rw [ch, if_pos w]
      show some (Sum.inl (_, nI (i + 1) + nI 1, _)) = _
      rw [nI_add, hν]
    · have pr : aR A (i + 1) 0 = 1 := by
        by_cases q : aR A (i + 1) 0 = 1
        · exact q
        · exact absurd (sW_abs ht hu q 10 (by omega)) w
      have hq := q_ok (hl (i + 1) (by omega) (by omega) pr) (Nat.pos_of_ne_zero w) (by omega)
      have lf : mF ν (mP ν 195 0) (Int32.toNatClampNeg (nI (i + 1))) = l (i + 1) := by rw [p2, mc]; exact hX'.1 _ (by omega) (by omega) pr
      have c8 := (ch_ok (l := l) (ac := ac) ht hu i (by omega)).1
      refine iteF (by show ¬ nI _ ≤ nI 0; rw [nI_leI (by omega) (by omega)]; omega) (iteT (by rw [p2, p5]; exact ⟨rfl, (mInb_iff (by omega)).mpr (by omega)⟩) ?_)
      rw [lf]
      refine iteT (nn_le hq (by omega)) ?_
      have fin : s73L7_33 195 11 ν (nI (i + 1)) (FP.fdiv (l (i + 1)) (FP.i2f (nI (sW A ac (i + 1) 10)))) = some (Sum.inl (cI (i + 1), nI (i + 1 + 1), mUF μ 195 3 (FP.fdiv (l (i + 1)) (FP.i2f (nI (sW A ac (i + 1) 10)))))) := by
        unfold s73L7_33
        refine iteT (by rw [p1]) ?_
        show some (Sum.inl (nI (i + 1), nI (i + 1) + nI 1, mUF ν 195 3 _)) = _
        rw [nI_add, hν, UF_2]
        unfold cI
        rw [if_neg (by omega)]
      rw [ch, if_neg w]
      by_cases c0 : (ch A l ac i).1 = 0
      · rw [if_pos (Or.inl c0)]
        refine iteT ((cI_m (by omega)).mpr c0) ?_
        exact fin
      · refine iteF (fun q => c0 ((cI_m (by omega)).mp q)) ?_
        rw [lv]
        by_cases c1 : 0 ≤ Op.cmpValue (FP.fcmp (FP.fdiv (l (i + 1)) (FP.i2f (nI (sW A ac (i + 1) 10)))) (ch A l ac i).2) CmpOp.g
        · rw [if_neg (show ¬ ((ch A l ac i).1 = 0 ∨ ¬ 0 ≤ Op.cmpValue (FP.fcmp (FP.fdiv (l (i + 1)) (FP.i2f (nI (sW A ac (i + 1) 10)))) (ch A l ac i).2) CmpOp.g) from fun q => Or.elim q c0 (fun q => q c1))]
          refine iteT c1 ?_
          show some (Sum.inl (_, nI (i + 1) + nI 1, _)) = _
          rw [nI_add, hν]
        · rw [if_pos (Or.inr c1)]
          exact iteF c1 fin) (by
    unfold s73L7
    exact iteT (by show nI 8 ≤ nI (7 + 1); rw [nI_leI (by omega) (by omega)]; omega) rfl) (n := 1000) (by omega)
  unfold s73
  exact iteT (by rw [(sh_s hK).1]) (bindS (v := mUF μ 195 3 FP.fconst0) rfl (bindS e rfl))
theorem k224 (hM : RS μ A) (ht : WFt A) (hu : WFu A) (hX : SX A 215 μ l s ac) (ha : AC A ac) (hl : BL A l) (hd : d < 2) : s224 μ 200 (nI d) = some (nI (ch A l ac 7).1) := by
  have hR := hM.1
  have e := mLoop_seq0 (b := s224L6 μ 200 (nI d)) (fun i => (nI (ch A l ac i).1, (ch A l ac i).2, nI (i + 1))) 7 (o := .inl (nI (ch A l ac 7).1)) (fun i hi => by
    have mc := m_cl (show i + 1 < 2 ^ 31 by omega)
    unfold s224L6
    have z := sW_le (A := A) (ac := ac) (r := i + 1) (n := 10)
    have main : s224L6_21 μ 200 (nI d) (nI (ch A l ac i).1) (ch A l ac i).2 (nI (i + 1)) (FP.i2f (nI (sW A ac (i + 1) 10))) = some (Sum.inl (nI (ch A l ac (i + 1)).1, (ch A l ac (i + 1)).2, nI (i + 1 + 1))) := by
      unfold s224L6_21
      by_cases w : sW A ac (i + 1) 10 = 0
      · refine iteT (by rw [w]; exact i2_z) ?_
        rw [ch, if_pos w]
        show some (Sum.inl (_, _, nI (i + 1) + nI 1)) = _
        rw [nI_add]
      · have pr : aR A (i + 1) 0 = 1 := by
          by_cases q : aR A (i + 1) 0 = 1
          · exact q
          · exact absurd (sW_abs ht hu q 10 (by omega)) w
        have hq := q_ok (hl (i + 1) (by omega) (by omega) pr) (Nat.pos_of_ne_zero w) (by omega)
        have lf : mF μ (mP μ 200 16) (Int32.toNatClampNeg (nI (i + 1))) = l (i + 1) := by rw [RefL.r16 hR, mc]; exact hX.1 _ (by omega) (by omega) pr
        have c8 := (ch_ok (l := l) (ac := ac) ht hu i (by omega)).1
        have i2 := (i2_lo ⟨sW A ac (i + 1) 10 - 1, by omega⟩).2.2.2
        have e1 : sW A ac (i + 1) 10 - 1 + 1 = sW A ac (i + 1) 10 := by omega
        simp only [e1] at i2
        refine iteF i2 (iteT (by rw [RefL.s hR]) (iteT (by rw [RefL.r16 hR, RefL.a16 hR]; exact ⟨rfl, (mInb_iff (by omega)).mpr (by omega)⟩) ?_))
        rw [lf]
        refine iteT (nn_le hq (by omega)) ?_
        have fin : s224L6_39 μ 200 (nI d) (nI (i + 1)) (FP.fdiv (l (i + 1)) (FP.i2f (nI (sW A ac (i + 1) 10)))) = some (Sum.inl (nI (i + 1), FP.fdiv (l (i + 1)) (FP.i2f (nI (sW A ac (i + 1) 10))), nI (i + 1 + 1))) := by
          show some (Sum.inl (nI (i + 1), _, nI (i + 1) + nI 1)) = _
          rw [nI_add]
        rw [ch, if_neg w]
        by_cases c0 : (ch A l ac i).1 = 0
        · rw [if_pos (Or.inl c0)]
          refine iteT (by rw [c0]; rfl) ?_
          exact fin
        · refine iteF (by show ¬ nI _ = nI 0; rw [nI_eq (by omega) (by omega)]; exact c0) ?_
          by_cases c1 : 0 ≤ Op.cmpValue (FP.fcmp (FP.fdiv (l (i + 1)) (FP.i2f (nI (sW A ac (i + 1) 10)))) (ch A l ac i).2) CmpOp.g
          · rw [if_neg (show ¬ ((ch A l ac i).1 = 0 ∨ ¬ 0 ≤ Op.cmpValue (FP.fcmp (FP.fdiv (l (i + 1)) (FP.i2f (nI (sW A ac (i + 1) 10)))) (ch A l ac i).2) CmpOp.g) from fun q => Or.elim q c0 (fun q => q c1))]
            refine iteT c1 ?_
            show some (Sum.inl (_, _, nI (i + 1) + nI 1)) = _
            rw [nI_add]
          · rw [if_pos (Or.inr c1)]
            exact iteF c1 fin
    have l1 := ht.le1 (show i + 1 < 8 by omega)
    refine iteF (by show ¬ nI 8 ≤ nI (i + 1); rw [nI_leI (by omega) (by omega)]; omega) (iteT (by rw [RefL.s hR]) (bindS (v := nI (aR A (i + 1) 0)) (k148 hM (by omega) (k := 0) (by omega)) ?_))
    by_cases q : aR A (i + 1) 0 = 1
    · refine iteF (by rw [q]; decide) (bindS (k223 hM ht hu hX ha (by omega) hd) ?_)
      exact main
    · refine iteT (by show ¬ nI _ = nI 1; rw [nI_eq (by omega) (by omega)]; exact q) ?_
      rw [sW_abs ht hu q 10 (by omega), i2_w.2.2] at main
      exact main) (by
    unfold s224L6
    exact iteT (by show nI 8 ≤ nI (7 + 1); rw [nI_leI (by omega) (by omega)]; omega) rfl) (n := 1000) (by omega)
  unfold s224
  exact bindS e rfl
end SH
