/-! 226: TunnelFabricModel.takesShare(I)V -/
def s226L5_27 (p0 : Nat) (p1 : Int32) (μ : mM) (v2 : Int32) (t0 : UInt32) (t1 : Int32) (t2 : Nat) : Option ((Int32 × mM) ⊕ ((mM) ⊕ mM)) :=
  if (mS μ t2).1 = 11 ∧ mInb t1 (mS μ t2).2 then (some (mUF μ t2 (Int32.toNatClampNeg t1) t0)).bind fun μ9 => if (mS μ9 p0).1 = 9 then (s148 μ9 p0 v2 3).bind fun q11 => some (.inl (q11, μ9)) else none else none
set_option maxRecDepth 20000 in
theorem t226L5_27 (p0 : Nat) (p1 : Int32) (μ : mM) (v2 : Int32) (t0 : UInt32) (t1 : Int32) (t2 : Nat) (w3 : Value) (hw3 : mNotL w3 = true) {o : ((Int32 × mM) ⊕ ((mM) ⊕ mM))} {r : Option Value × mM} (hr : s226L5_27 p0 p1 μ v2 t0 t1 t2 = some o) (hC : Sum.elim (fun s' : Int32 × mM => ∀ (w3 : Value) (hw3 : mNotL w3 = true), mGo mG (226, List.drop 5 mC226, [.ref p0, .int p1, .int s'.1, w3], [], s'.2) r) (Sum.elim (fun x : mM => ∀ (w0 : Value) (hw0 : mNotL w0 = true) (w1 : Value) (hw1 : mNotL w1 = true) (w2 : Value) (hw2 : mNotL w2 = true) (w3 : Value) (hw3 : mNotL w3 = true), mGo mG (226, List.drop 34 mC226, [w0, w1, w2, w3], [], x) r) (fun y : mM => r = (none, y))) o) : mGo mG (226, List.drop 27 mC226, [.ref p0, .int p1, .int v2, w3], [.float t0, .int t1, .ref t2], μ) r := by
  unfold s226L5_27 at hr
  obtain ⟨h8, hr⟩ := mIf hr
  replace hr := mBs hr
  refine gFast (is := List.drop 28 mC226) h8 ?_
  let μ9 : mM := mUF μ t2 (Int32.toNatClampNeg t1) t0
  refine mGo.steps 3 (c' := (226, List.drop 31 mC226, [.ref p0, .int p1, .int v2, w3], [.int 3, .int v2, .ref p0], μ9)) rfl ?_
  obtain ⟨h10, hr⟩ := mIf hr
  obtain ⟨q11, h12, hr⟩ := mBi hr
  refine gCall (z := 148) (n := 2) (f := 0) (kind := 1) (a := p0) (As := [.int v2, .int 3]) (y := 226) (is := List.drop 32 mC226) (L := [.ref p0, .int p1, .int v2, w3]) (rest := []) (μ := μ9) rfl (by decide) (by decide) ⟨rfl, rfl⟩ rfl h10 (Nat.le_of_ble_eq_true rfl) (Nat.le_of_ble_eq_true rfl) (t148 h12) ?_
  refine mGo.steps 2 (c' := (226, List.drop 5 mC226, [.ref p0, .int p1, .int q11, w3], [], μ9)) rfl ?_
  obtain rfl := Option.some.inj hr
  exact hC w3 hw3
def s226L5 (p0 : Nat) (p1 : Int32) (s : Int32 × mM) : Option ((Int32 × mM) ⊕ ((mM) ⊕ mM)) :=
  if s.1 ≤ 0 then (some (.inr (.inl s.2))) else (if (mS s.2 p0).1 = 9 then if (mS s.2 (mP s.2 p0 16)).1 = 11 ∧ mInb s.1 (mS s.2 (mP s.2 p0 16)).2 then if (mS s.2 (mP s.2 p0 17)).1 = 11 ∧ mInb p1 (mS s.2 (mP s.2 p0 17)).2 then if FP.fsub (mF s.2 (mP s.2 p0 16) (Int32.toNatClampNeg s.1)) (mF s.2 (mP s.2 p0 17) (Int32.toNatClampNeg p1)) &&& 0x7fffffff ≤ 0x7f800000 then if 0 ≤ (Op.cmpValue (FP.fcmp (FP.fsub (mF s.2 (mP s.2 p0 16) (Int32.toNatClampNeg s.1)) (mF s.2 (mP s.2 p0 17) (Int32.toNatClampNeg p1))) FP.fconst0) CmpOp.g) then (s226L5_27 p0 p1 s.2 s.1 (FP.fsub (mF s.2 (mP s.2 p0 16) (Int32.toNatClampNeg s.1)) (mF s.2 (mP s.2 p0 17) (Int32.toNatClampNeg p1))) s.1 (mP s.2 p0 16)) else (s226L5_27 p0 p1 s.2 s.1 FP.fconst0 s.1 (mP s.2 p0 16)) else none else none else none else none)
set_option maxRecDepth 20000 in
theorem t226L5 (p0 : Nat) (p1 : Int32) {r : Option Value × mM} (s : Int32 × mM) (o : ((Int32 × mM) ⊕ ((mM) ⊕ mM))) (hr : s226L5 p0 p1 s = some o) (hC : Sum.elim (fun s' : Int32 × mM => ∀ (w3 : Value) (hw3 : mNotL w3 = true), mGo mG (226, List.drop 5 mC226, [.ref p0, .int p1, .int s'.1, w3], [], s'.2) r) (Sum.elim (fun x : mM => ∀ (w0 : Value) (hw0 : mNotL w0 = true) (w1 : Value) (hw1 : mNotL w1 = true) (w2 : Value) (hw2 : mNotL w2 = true) (w3 : Value) (hw3 : mNotL w3 = true), mGo mG (226, List.drop 34 mC226, [w0, w1, w2, w3], [], x) r) (fun y : mM => r = (none, y))) o) : ∀ (w3 : Value) (hw3 : mNotL w3 = true), mGo mG (226, List.drop 5 mC226, [.ref p0, .int p1, .int s.1, w3], [], s.2) r := by
  intro w3 hw3
  unfold s226L5 at hr
  refine mGo.steps 1 (c' := (226, List.drop 6 mC226, [.ref p0, .int p1, .int s.1, w3], [.int s.1], s.2)) rfl ?_
  rcases mIte hr with ⟨h14, hr⟩ | ⟨h14, hr⟩
  · refine gBrT (p := s.1 ≤ 0) (y := 226) (is := List.drop 7 mC226) (L := [.ref p0, .int p1, .int s.1, w3]) (st := []) (μ := s.2) (t := 52) rfl h14 ?_
    obtain rfl := Option.some.inj hr
    exact hC (.ref p0) rfl (.int p1) rfl (.int s.1) rfl w3 hw3
  · refine gBrF (p := s.1 ≤ 0) (y := 226) (is := List.drop 7 mC226) (L := [.ref p0, .int p1, .int s.1, w3]) (st := []) (μ := s.2) (t := 52) rfl h14 ?_
    refine mGo.steps 1 (c' := (226, List.drop 8 mC226, [.ref p0, .int p1, .int s.1, w3], [.ref p0], s.2)) rfl ?_
    obtain ⟨h4, hr⟩ := mIf hr
    refine gGet (is := List.drop 9 mC226) (v := .ref (mP s.2 p0 16)) h4 rfl ?_
    refine mGo.steps 1 (c' := (226, List.drop 10 mC226, [.ref p0, .int p1, .int s.1, w3], [.int s.1, .ref (mP s.2 p0 16)], s.2)) rfl ?_
    obtain ⟨h5, hr⟩ := mIf hr
    refine gFald (is := List.drop 11 mC226) h5 ?_
    refine mGo.steps 1 (c' := (226, List.drop 12 mC226, [.ref p0, .int p1, .int s.1, w3], [.ref p0, .float (mF s.2 (mP s.2 p0 16) (Int32.toNatClampNeg s.1))], s.2)) rfl ?_
    refine gGet (is := List.drop 13 mC226) (v := .ref (mP s.2 p0 17)) h4 rfl ?_
    refine mGo.steps 1 (c' := (226, List.drop 14 mC226, [.ref p0, .int p1, .int s.1, w3], [.int p1, .ref (mP s.2 p0 17), .float (mF s.2 (mP s.2 p0 16) (Int32.toNatClampNeg s.1))], s.2)) rfl ?_
    obtain ⟨h6, hr⟩ := mIf hr
    refine gFald (is := List.drop 15 mC226) h6 ?_
    obtain ⟨h7, hr⟩ := mIf hr
    refine gFsub (is := List.drop 16 mC226) h7 ?_
    refine mGo.steps 2 (c' := (226, List.drop 18 mC226, [.ref p0, .int p1, .int s.1, .float (FP.fsub (mF s.2 (mP s.2 p0 16) (Int32.toNatClampNeg s.1)) (mF s.2 (mP s.2 p0 17) (Int32.toNatClampNeg p1)))], [.ref p0], s.2)) rfl ?_
    refine gGet (is := List.drop 19 mC226) (v := .ref (mP s.2 p0 16)) h4 rfl ?_
    refine mGo.steps 4 (c' := (226, List.drop 23 mC226, [.ref p0, .int p1, .int s.1, .float (FP.fsub (mF s.2 (mP s.2 p0 16) (Int32.toNatClampNeg s.1)) (mF s.2 (mP s.2 p0 17) (Int32.toNatClampNeg p1)))], [.int (Op.cmpValue (FP.fcmp (FP.fsub (mF s.2 (mP s.2 p0 16) (Int32.toNatClampNeg s.1)) (mF s.2 (mP s.2 p0 17) (Int32.toNatClampNeg p1))) FP.fconst0) CmpOp.g), .int s.1, .ref (mP s.2 p0 16)], s.2)) rfl ?_
    rcases mIte hr with ⟨h13, hr⟩ | ⟨h13, hr⟩
    · refine gBrT (p := 0 ≤ (Op.cmpValue (FP.fcmp (FP.fsub (mF s.2 (mP s.2 p0 16) (Int32.toNatClampNeg s.1)) (mF s.2 (mP s.2 p0 17) (Int32.toNatClampNeg p1))) FP.fconst0) CmpOp.g)) (y := 226) (is := List.drop 24 mC226) (L := [.ref p0, .int p1, .int s.1, .float (FP.fsub (mF s.2 (mP s.2 p0 16) (Int32.toNatClampNeg s.1)) (mF s.2 (mP s.2 p0 17) (Int32.toNatClampNeg p1)))]) (st := [.int s.1, .ref (mP s.2 p0 16)]) (μ := s.2) (t := 40) rfl h13 ?_
      refine mGo.steps 1 (c' := (226, List.drop 27 mC226, [.ref p0, .int p1, .int s.1, .float (FP.fsub (mF s.2 (mP s.2 p0 16) (Int32.toNatClampNeg s.1)) (mF s.2 (mP s.2 p0 17) (Int32.toNatClampNeg p1)))], [.float (FP.fsub (mF s.2 (mP s.2 p0 16) (Int32.toNatClampNeg s.1)) (mF s.2 (mP s.2 p0 17) (Int32.toNatClampNeg p1))), .int s.1, .ref (mP s.2 p0 16)], s.2)) rfl ?_
      exact t226L5_27 p0 p1 s.2 s.1 (FP.fsub (mF s.2 (mP s.2 p0 16) (Int32.toNatClampNeg s.1)) (mF s.2 (mP s.2 p0 17) (Int32.toNatClampNeg p1))) s.1 (mP s.2 p0 16) (.float (FP.fsub (mF s.2 (mP s.2 p0 16) (Int32.toNatClampNeg s.1)) (mF s.2 (mP s.2 p0 17) (Int32.toNatClampNeg p1)))) rfl hr hC
    · refine gBrF (p := 0 ≤ (Op.cmpValue (FP.fcmp (FP.fsub (mF s.2 (mP s.2 p0 16) (Int32.toNatClampNeg s.1)) (mF s.2 (mP s.2 p0 17) (Int32.toNatClampNeg p1))) FP.fconst0) CmpOp.g)) (y := 226) (is := List.drop 24 mC226) (L := [.ref p0, .int p1, .int s.1, .float (FP.fsub (mF s.2 (mP s.2 p0 16) (Int32.toNatClampNeg s.1)) (mF s.2 (mP s.2 p0 17) (Int32.toNatClampNeg p1)))]) (st := [.int s.1, .ref (mP s.2 p0 16)]) (μ := s.2) (t := 40) rfl h13 ?_
      refine mGo.steps 2 (c' := (226, List.drop 27 mC226, [.ref p0, .int p1, .int s.1, .float (FP.fsub (mF s.2 (mP s.2 p0 16) (Int32.toNatClampNeg s.1)) (mF s.2 (mP s.2 p0 17) (Int32.toNatClampNeg p1)))], [.float FP.fconst0, .int s.1, .ref (mP s.2 p0 16)], s.2)) rfl ?_
      exact t226L5_27 p0 p1 s.2 s.1 FP.fconst0 s.1 (mP s.2 p0 16) (.float (FP.fsub (mF s.2 (mP s.2 p0 16) (Int32.toNatClampNeg s.1)) (mF s.2 (mP s.2 p0 17) (Int32.toNatClampNeg p1)))) rfl hr hC
theorem t226L5l (p0 : Nat) (p1 : Int32) {r : Option Value × mM} (n : Nat) (s : Int32 × mM) (o : (mM) ⊕ mM) (hr : mLoop (s226L5 p0 p1) n s = some o) (hC : Sum.elim (fun x : mM => ∀ (w0 : Value) (hw0 : mNotL w0 = true) (w1 : Value) (hw1 : mNotL w1 = true) (w2 : Value) (hw2 : mNotL w2 = true) (w3 : Value) (hw3 : mNotL w3 = true), mGo mG (226, List.drop 34 mC226, [w0, w1, w2, w3], [], x) r) (fun y : mM => r = (none, y)) o) : ∀ (w3 : Value) (hw3 : mNotL w3 = true), mGo mG (226, List.drop 5 mC226, [.ref p0, .int p1, .int s.1, w3], [], s.2) r :=
  mLoop_go (Hd := (fun s' : Int32 × mM => ∀ (w3 : Value) (hw3 : mNotL w3 = true), mGo mG (226, List.drop 5 mC226, [.ref p0, .int p1, .int s'.1, w3], [], s'.2) r)) (fun s o hb hC => t226L5 p0 p1 s o hb hC) n s o hr hC
def s226 (μ : mM) (a0 : Nat) (a1 : Int32) : Option mM :=
  if (mS μ a0).1 = 9 then (s159 μ a0 a1 2).bind fun q2 => (mLoop (s226L5 a0 a1) 1000 (q2, μ)).bind fun o15 => Sum.elim (fun x16 => some x16) (fun y17 => some y17) o15 else none
set_option maxRecDepth 20000 in
theorem t226 {μ : mM} {a0 : Nat} {a1 : Int32} {o : mM} (hr : s226 μ a0 a1 = some o) : mEv mG 226 [.ref a0, .int a1] μ (none) (o) := by
  obtain ⟨r, hC⟩ : ∃ r : Option Value × mM, r = (none, o) := ⟨_, rfl⟩
  show mGo mG (226, List.drop 0 mC226, [.ref a0, .int a1, .retAddr 0, .retAddr 0], [], μ) (none, o)
  rw [← hC]
  unfold s226 at hr
  refine mGo.steps 3 (c' := (226, List.drop 3 mC226, [.ref a0, .int a1, .retAddr 0, .retAddr 0], [.int 2, .int a1, .ref a0], μ)) rfl ?_
  obtain ⟨h1, hr⟩ := mIf hr
  obtain ⟨q2, h3, hr⟩ := mBi hr
  refine gCall (z := 159) (n := 2) (f := 0) (kind := 1) (a := a0) (As := [.int a1, .int 2]) (y := 226) (is := List.drop 4 mC226) (L := [.ref a0, .int a1, .retAddr 0, .retAddr 0]) (rest := []) (μ := μ) rfl (by decide) (by decide) ⟨rfl, rfl⟩ rfl h1 (Nat.le_of_ble_eq_true rfl) (Nat.le_of_ble_eq_true rfl) (t159 h3) ?_
  refine mGo.steps 1 (c' := (226, List.drop 5 mC226, [.ref a0, .int a1, .int q2, .retAddr 0], [], μ)) rfl ?_
  obtain ⟨o15, h18, hr⟩ := mBi hr
  refine t226L5l a0 a1 1000 (q2, μ) o15 h18 ?_ (.retAddr 0) rfl
  cases o15 with
  | inl x16 =>
    show ∀ (w0 : Value) (hw0 : mNotL w0 = true) (w1 : Value) (hw1 : mNotL w1 = true) (w2 : Value) (hw2 : mNotL w2 = true) (w3 : Value) (hw3 : mNotL w3 = true), mGo mG (226, List.drop 34 mC226, [w0, w1, w2, w3], [], x16) r
    intro w0 hw0 w1 hw1 w2 hw2 w3 hw3
    replace hr : (_) = some _ := hr
    obtain rfl := Option.some.inj hr
    rw [show r = _ from hC]
    exact gVret rfl
  | inr y17 =>
    obtain rfl := Option.some.inj hr
    exact hC

/-! 225: TunnelFabricModel.shares(I)V -/
def s225L2_29 (p0 : Nat) (p1 : Int32) (μ : mM) (v2 : Int32) (t0 : UInt32) (t1 : Int32) (t2 : Nat) : Option ((Int32 × mM) ⊕ ((mM) ⊕ mM)) :=
  if (mS μ t2).1 = 11 ∧ mInb t1 (mS μ t2).2 then (some (mUF μ t2 (Int32.toNatClampNeg t1) t0)).bind fun μ5 => some (.inl (v2 + 1, μ5)) else none
set_option maxRecDepth 20000 in
theorem t225L2_29 (p0 : Nat) (p1 : Int32) (μ : mM) (v2 : Int32) (t0 : UInt32) (t1 : Int32) (t2 : Nat) (w3 : Value) (hw3 : mNotL w3 = true) (w4 : Value) (hw4 : mNotL w4 = true) {o : ((Int32 × mM) ⊕ ((mM) ⊕ mM))} {r : Option Value × mM} (hr : s225L2_29 p0 p1 μ v2 t0 t1 t2 = some o) (hC : Sum.elim (fun s' : Int32 × mM => ∀ (w3 : Value) (hw3 : mNotL w3 = true) (w4 : Value) (hw4 : mNotL w4 = true), mGo mG (225, List.drop 2 mC225, [.ref p0, .int p1, .int s'.1, w3, w4], [], s'.2) r) (Sum.elim (fun x : mM => ∀ (w2 : Value) (hw2 : mNotL w2 = true) (w3 : Value) (hw3 : mNotL w3 = true) (w4 : Value) (hw4 : mNotL w4 = true), mGo mG (225, List.drop 32 mC225, [.ref p0, .int p1, w2, w3, w4], [], x) r) (fun y : mM => r = (none, y))) o) : mGo mG (225, List.drop 29 mC225, [.ref p0, .int p1, .int v2, w3, w4], [.float t0, .int t1, .ref t2], μ) r := by
  unfold s225L2_29 at hr
  obtain ⟨h4, hr⟩ := mIf hr
  replace hr := mBs hr
  refine gFast (is := List.drop 30 mC225) h4 ?_
  let μ5 : mM := mUF μ t2 (Int32.toNatClampNeg t1) t0
  refine mGo.steps 2 (c' := (225, List.drop 2 mC225, [.ref p0, .int p1, .int (v2 + 1), w3, w4], [], μ5)) rfl ?_
  obtain rfl := Option.some.inj hr
  exact hC w3 hw3 w4 hw4
def s225L2_25 (p0 : Nat) (p1 : Int32) (μ : mM) (v2 : Int32) (t0 : Int32) (t1 : Int32) (t2 : Int32) (t3 : Nat) : Option ((Int32 × mM) ⊕ ((mM) ⊕ mM)) :=
  s225L2_29 p0 p1 μ v2 (FP.i2f (t1 - t0)) t2 t3
set_option maxRecDepth 20000 in
theorem t225L2_25 (p0 : Nat) (p1 : Int32) (μ : mM) (v2 : Int32) (t0 : Int32) (t1 : Int32) (t2 : Int32) (t3 : Nat) (w3 : Value) (hw3 : mNotL w3 = true) (w4 : Value) (hw4 : mNotL w4 = true) {o : ((Int32 × mM) ⊕ ((mM) ⊕ mM))} {r : Option Value × mM} (hr : s225L2_25 p0 p1 μ v2 t0 t1 t2 t3 = some o) (hC : Sum.elim (fun s' : Int32 × mM => ∀ (w3 : Value) (hw3 : mNotL w3 = true) (w4 : Value) (hw4 : mNotL w4 = true), mGo mG (225, List.drop 2 mC225, [.ref p0, .int p1, .int s'.1, w3, w4], [], s'.2) r) (Sum.elim (fun x : mM => ∀ (w2 : Value) (hw2 : mNotL w2 = true) (w3 : Value) (hw3 : mNotL w3 = true) (w4 : Value) (hw4 : mNotL w4 = true), mGo mG (225, List.drop 32 mC225, [.ref p0, .int p1, w2, w3, w4], [], x) r) (fun y : mM => r = (none, y))) o) : mGo mG (225, List.drop 25 mC225, [.ref p0, .int p1, .int v2, w3, w4], [.int t0, .int t1, .int t2, .ref t3], μ) r := by
  unfold s225L2_25 at hr
  refine mGo.steps 3 (c' := (225, List.drop 29 mC225, [.ref p0, .int p1, .int v2, w3, w4], [.float (FP.i2f (t1 - t0)), .int t2, .ref t3], μ)) rfl ?_
  exact t225L2_29 p0 p1 μ v2 (FP.i2f (t1 - t0)) t2 t3 w3 hw3 w4 hw4 hr hC
def s225L2 (p0 : Nat) (p1 : Int32) (s : Int32 × mM) : Option ((Int32 × mM) ⊕ ((mM) ⊕ mM)) :=
  if 8 ≤ s.1 then (some (.inr (.inl s.2))) else (if (mS s.2 p0).1 = 9 then (s148 s.2 p0 s.1 0).bind fun q2 => if ¬ q2 = 1 then (s225L2_29 p0 p1 s.2 s.1 FP.fconst0 s.1 (mP s.2 p0 16)) else ((s156 s.2 p0 s.1 p1).bind fun q6 => if ¬ p1 = 0 then (s225L2_25 p0 p1 s.2 s.1 0 q6 s.1 (mP s.2 p0 16)) else ((s168 s.2 p0 s.1).bind fun q8 => s225L2_25 p0 p1 s.2 s.1 q8 q6 s.1 (mP s.2 p0 16))) else none)
set_option maxRecDepth 20000 in
theorem t225L2 (p0 : Nat) (p1 : Int32) {r : Option Value × mM} (s : Int32 × mM) (o : ((Int32 × mM) ⊕ ((mM) ⊕ mM))) (hr : s225L2 p0 p1 s = some o) (hC : Sum.elim (fun s' : Int32 × mM => ∀ (w3 : Value) (hw3 : mNotL w3 = true) (w4 : Value) (hw4 : mNotL w4 = true), mGo mG (225, List.drop 2 mC225, [.ref p0, .int p1, .int s'.1, w3, w4], [], s'.2) r) (Sum.elim (fun x : mM => ∀ (w2 : Value) (hw2 : mNotL w2 = true) (w3 : Value) (hw3 : mNotL w3 = true) (w4 : Value) (hw4 : mNotL w4 = true), mGo mG (225, List.drop 32 mC225, [.ref p0, .int p1, w2, w3, w4], [], x) r) (fun y : mM => r = (none, y))) o) : ∀ (w3 : Value) (hw3 : mNotL w3 = true) (w4 : Value) (hw4 : mNotL w4 = true), mGo mG (225, List.drop 2 mC225, [.ref p0, .int p1, .int s.1, w3, w4], [], s.2) r := by
  intro w3 hw3 w4 hw4
  unfold s225L2 at hr
  refine mGo.steps 2 (c' := (225, List.drop 4 mC225, [.ref p0, .int p1, .int s.1, w3, w4], [.int 8, .int s.1], s.2)) rfl ?_
  rcases mIte hr with ⟨h12, hr⟩ | ⟨h12, hr⟩
  · refine gBrT (p := 8 ≤ s.1) (y := 225) (is := List.drop 5 mC225) (L := [.ref p0, .int p1, .int s.1, w3, w4]) (st := []) (μ := s.2) (t := 55) rfl h12 ?_
    obtain rfl := Option.some.inj hr
    exact hC (.int s.1) rfl w3 hw3 w4 hw4
  · refine gBrF (p := 8 ≤ s.1) (y := 225) (is := List.drop 5 mC225) (L := [.ref p0, .int p1, .int s.1, w3, w4]) (st := []) (μ := s.2) (t := 55) rfl h12 ?_
    refine mGo.steps 1 (c' := (225, List.drop 6 mC225, [.ref p0, .int p1, .int s.1, w3, w4], [.ref p0], s.2)) rfl ?_
    obtain ⟨h1, hr⟩ := mIf hr
    refine gGet (is := List.drop 7 mC225) (v := .ref (mP s.2 p0 16)) h1 rfl ?_
    refine mGo.steps 4 (c' := (225, List.drop 11 mC225, [.ref p0, .int p1, .int s.1, w3, w4], [.int 0, .int s.1, .ref p0, .int s.1, .ref (mP s.2 p0 16)], s.2)) rfl ?_
    obtain ⟨q2, h3, hr⟩ := mBi hr
    refine gCall (z := 148) (n := 2) (f := 0) (kind := 1) (a := p0) (As := [.int s.1, .int 0]) (y := 225) (is := List.drop 12 mC225) (L := [.ref p0, .int p1, .int s.1, w3, w4]) (rest := [.int s.1, .ref (mP s.2 p0 16)]) (μ := s.2) rfl (by decide) (by decide) ⟨rfl, rfl⟩ rfl h1 (Nat.le_of_ble_eq_true rfl) (Nat.le_of_ble_eq_true rfl) (t148 h3) ?_
    refine mGo.steps 1 (c' := (225, List.drop 13 mC225, [.ref p0, .int p1, .int s.1, w3, w4], [.int 1, .int q2, .int s.1, .ref (mP s.2 p0 16)], s.2)) rfl ?_
    rcases mIte hr with ⟨h11, hr⟩ | ⟨h11, hr⟩
    · refine gBrT (p := ¬ q2 = 1) (y := 225) (is := List.drop 14 mC225) (L := [.ref p0, .int p1, .int s.1, w3, w4]) (st := [.int s.1, .ref (mP s.2 p0 16)]) (μ := s.2) (t := 47) rfl h11 ?_
      refine mGo.steps 1 (c' := (225, List.drop 29 mC225, [.ref p0, .int p1, .int s.1, w3, w4], [.float FP.fconst0, .int s.1, .ref (mP s.2 p0 16)], s.2)) rfl ?_
      exact t225L2_29 p0 p1 s.2 s.1 FP.fconst0 s.1 (mP s.2 p0 16) w3 hw3 w4 hw4 hr hC
    · refine gBrF (p := ¬ q2 = 1) (y := 225) (is := List.drop 14 mC225) (L := [.ref p0, .int p1, .int s.1, w3, w4]) (st := [.int s.1, .ref (mP s.2 p0 16)]) (μ := s.2) (t := 47) rfl h11 ?_
      refine mGo.steps 3 (c' := (225, List.drop 17 mC225, [.ref p0, .int p1, .int s.1, w3, w4], [.int p1, .int s.1, .ref p0, .int s.1, .ref (mP s.2 p0 16)], s.2)) rfl ?_
      obtain ⟨q6, h7, hr⟩ := mBi hr
      refine gCall (z := 156) (n := 2) (f := 0) (kind := 1) (a := p0) (As := [.int s.1, .int p1]) (y := 225) (is := List.drop 18 mC225) (L := [.ref p0, .int p1, .int s.1, w3, w4]) (rest := [.int s.1, .ref (mP s.2 p0 16)]) (μ := s.2) rfl (by decide) (by decide) ⟨rfl, rfl⟩ rfl h1 (Nat.le_of_ble_eq_true rfl) (Nat.le_of_ble_eq_true rfl) (t156 h7) ?_
      refine mGo.steps 1 (c' := (225, List.drop 19 mC225, [.ref p0, .int p1, .int s.1, w3, w4], [.int p1, .int q6, .int s.1, .ref (mP s.2 p0 16)], s.2)) rfl ?_
      rcases mIte hr with ⟨h10, hr⟩ | ⟨h10, hr⟩
      · refine gBrT (p := ¬ p1 = 0) (y := 225) (is := List.drop 20 mC225) (L := [.ref p0, .int p1, .int s.1, w3, w4]) (st := [.int q6, .int s.1, .ref (mP s.2 p0 16)]) (μ := s.2) (t := 41) rfl h10 ?_
        refine mGo.steps 1 (c' := (225, List.drop 25 mC225, [.ref p0, .int p1, .int s.1, w3, w4], [.int 0, .int q6, .int s.1, .ref (mP s.2 p0 16)], s.2)) rfl ?_
        exact t225L2_25 p0 p1 s.2 s.1 0 q6 s.1 (mP s.2 p0 16) w3 hw3 w4 hw4 hr hC
      · refine gBrF (p := ¬ p1 = 0) (y := 225) (is := List.drop 20 mC225) (L := [.ref p0, .int p1, .int s.1, w3, w4]) (st := [.int q6, .int s.1, .ref (mP s.2 p0 16)]) (μ := s.2) (t := 41) rfl h10 ?_
        refine mGo.steps 2 (c' := (225, List.drop 22 mC225, [.ref p0, .int p1, .int s.1, w3, w4], [.int s.1, .ref p0, .int q6, .int s.1, .ref (mP s.2 p0 16)], s.2)) rfl ?_
        obtain ⟨q8, h9, hr⟩ := mBi hr
        refine gCall (z := 168) (n := 1) (f := 0) (kind := 1) (a := p0) (As := [.int s.1]) (y := 225) (is := List.drop 23 mC225) (L := [.ref p0, .int p1, .int s.1, w3, w4]) (rest := [.int q6, .int s.1, .ref (mP s.2 p0 16)]) (μ := s.2) rfl (by decide) (by decide) ⟨rfl, rfl⟩ rfl h1 (Nat.le_of_ble_eq_true rfl) (Nat.le_of_ble_eq_true rfl) (t168 h9) ?_
        refine mGo.steps 1 (c' := (225, List.drop 25 mC225, [.ref p0, .int p1, .int s.1, w3, w4], [.int q8, .int q6, .int s.1, .ref (mP s.2 p0 16)], s.2)) rfl ?_
        exact t225L2_25 p0 p1 s.2 s.1 q8 q6 s.1 (mP s.2 p0 16) w3 hw3 w4 hw4 hr hC
theorem t225L2l (p0 : Nat) (p1 : Int32) {r : Option Value × mM} (n : Nat) (s : Int32 × mM) (o : (mM) ⊕ mM) (hr : mLoop (s225L2 p0 p1) n s = some o) (hC : Sum.elim (fun x : mM => ∀ (w2 : Value) (hw2 : mNotL w2 = true) (w3 : Value) (hw3 : mNotL w3 = true) (w4 : Value) (hw4 : mNotL w4 = true), mGo mG (225, List.drop 32 mC225, [.ref p0, .int p1, w2, w3, w4], [], x) r) (fun y : mM => r = (none, y)) o) : ∀ (w3 : Value) (hw3 : mNotL w3 = true) (w4 : Value) (hw4 : mNotL w4 = true), mGo mG (225, List.drop 2 mC225, [.ref p0, .int p1, .int s.1, w3, w4], [], s.2) r :=
  mLoop_go (Hd := (fun s' : Int32 × mM => ∀ (w3 : Value) (hw3 : mNotL w3 = true) (w4 : Value) (hw4 : mNotL w4 = true), mGo mG (225, List.drop 2 mC225, [.ref p0, .int p1, .int s'.1, w3, w4], [], s'.2) r)) (fun s o hb hC => t225L2 p0 p1 s o hb hC) n s o hr hC
def s225L34_54 (p0 : Nat) (p1 : Int32) (μ : mM) (v2 : Int32) (t0 : Int32) (t1 : Int32) (t2 : Nat) : Option ((Int32 × mM) ⊕ ((mM) ⊕ mM)) :=
  if (mS μ t2).1 = 12 ∧ mInb t1 (mS μ t2).2 then if t0 = 0 ∨ t0 = 1 then (some (mUI μ t2 (Int32.toNatClampNeg t1) t0)).bind fun μ22 => if (mS μ22 p0).1 = 9 then if (mS μ22 (mP μ22 p0 17)).1 = 11 ∧ mInb v2 (mS μ22 (mP μ22 p0 17)).2 then (some (mUF μ22 (mP μ22 p0 17) (Int32.toNatClampNeg v2) FP.fconst0)).bind fun μ25 => some (.inl (v2 + 1, μ25)) else none else none else none else none
set_option maxRecDepth 20000 in
theorem t225L34_54 (p0 : Nat) (p1 : Int32) (μ : mM) (v2 : Int32) (t0 : Int32) (t1 : Int32) (t2 : Nat) (w3 : Value) (hw3 : mNotL w3 = true) (w4 : Value) (hw4 : mNotL w4 = true) {o : ((Int32 × mM) ⊕ ((mM) ⊕ mM))} {r : Option Value × mM} (hr : s225L34_54 p0 p1 μ v2 t0 t1 t2 = some o) (hC : Sum.elim (fun s' : Int32 × mM => ∀ (w3 : Value) (hw3 : mNotL w3 = true) (w4 : Value) (hw4 : mNotL w4 = true), mGo mG (225, List.drop 34 mC225, [.ref p0, .int p1, .int s'.1, w3, w4], [], s'.2) r) (Sum.elim (fun x : mM => ∀ (w2 : Value) (hw2 : mNotL w2 = true) (w3 : Value) (hw3 : mNotL w3 = true) (w4 : Value) (hw4 : mNotL w4 = true), mGo mG (225, List.drop 62 mC225, [.ref p0, .int p1, w2, w3, w4], [], x) r) (fun y : mM => r = (none, y))) o) : mGo mG (225, List.drop 54 mC225, [.ref p0, .int p1, .int v2, w3, w4], [.int t0, .int t1, .ref t2], μ) r := by
  unfold s225L34_54 at hr
  obtain ⟨h20, hr⟩ := mIf hr
  obtain ⟨h21, hr⟩ := mIf hr
  replace hr := mBs hr
  refine gBast (is := List.drop 55 mC225) h20 h21 ?_
  let μ22 : mM := mUI μ t2 (Int32.toNatClampNeg t1) t0
  refine mGo.steps 1 (c' := (225, List.drop 56 mC225, [.ref p0, .int p1, .int v2, w3, w4], [.ref p0], μ22)) rfl ?_
  obtain ⟨h23, hr⟩ := mIf hr
  refine gGet (is := List.drop 57 mC225) (v := .ref (mP μ22 p0 17)) h23 rfl ?_
  refine mGo.steps 2 (c' := (225, List.drop 59 mC225, [.ref p0, .int p1, .int v2, w3, w4], [.float FP.fconst0, .int v2, .ref (mP μ22 p0 17)], μ22)) rfl ?_
  obtain ⟨h24, hr⟩ := mIf hr
  replace hr := mBs hr
  refine gFast (is := List.drop 60 mC225) h24 ?_
  let μ25 : mM := mUF μ22 (mP μ22 p0 17) (Int32.toNatClampNeg v2) FP.fconst0
  refine mGo.steps 2 (c' := (225, List.drop 34 mC225, [.ref p0, .int p1, .int (v2 + 1), w3, w4], [], μ25)) rfl ?_
  obtain rfl := Option.some.inj hr
  exact hC w3 hw3 w4 hw4
def s225L34_53 (p0 : Nat) (p1 : Int32) (μ : mM) (v2 : Int32) (t0 : Int32) (t1 : Nat) : Option ((Int32 × mM) ⊕ ((mM) ⊕ mM)) :=
  s225L34_54 p0 p1 μ v2 0 t0 t1
set_option maxRecDepth 20000 in
theorem t225L34_53 (p0 : Nat) (p1 : Int32) (μ : mM) (v2 : Int32) (t0 : Int32) (t1 : Nat) (w3 : Value) (hw3 : mNotL w3 = true) (w4 : Value) (hw4 : mNotL w4 = true) {o : ((Int32 × mM) ⊕ ((mM) ⊕ mM))} {r : Option Value × mM} (hr : s225L34_53 p0 p1 μ v2 t0 t1 = some o) (hC : Sum.elim (fun s' : Int32 × mM => ∀ (w3 : Value) (hw3 : mNotL w3 = true) (w4 : Value) (hw4 : mNotL w4 = true), mGo mG (225, List.drop 34 mC225, [.ref p0, .int p1, .int s'.1, w3, w4], [], s'.2) r) (Sum.elim (fun x : mM => ∀ (w2 : Value) (hw2 : mNotL w2 = true) (w3 : Value) (hw3 : mNotL w3 = true) (w4 : Value) (hw4 : mNotL w4 = true), mGo mG (225, List.drop 62 mC225, [.ref p0, .int p1, w2, w3, w4], [], x) r) (fun y : mM => r = (none, y))) o) : mGo mG (225, List.drop 53 mC225, [.ref p0, .int p1, .int v2, w3, w4], [.int t0, .ref t1], μ) r := by
  unfold s225L34_53 at hr
  refine mGo.steps 1 (c' := (225, List.drop 54 mC225, [.ref p0, .int p1, .int v2, w3, w4], [.int 0, .int t0, .ref t1], μ)) rfl ?_
  exact t225L34_54 p0 p1 μ v2 0 t0 t1 w3 hw3 w4 hw4 hr hC
def s225L34 (p0 : Nat) (p1 : Int32) (s : Int32 × mM) : Option ((Int32 × mM) ⊕ ((mM) ⊕ mM)) :=
  if 10 ≤ s.1 then (some (.inr (.inl s.2))) else (if (mS s.2 p0).1 = 9 then (s159 s.2 p0 s.1 0).bind fun q18 => if ¬ q18 = 1 then (s225L34_53 p0 p1 s.2 s.1 s.1 (mP s.2 p0 18)) else ((s159 s.2 p0 s.1 1).bind fun q26 => if q26 ≤ 0 then (s225L34_53 p0 p1 s.2 s.1 s.1 (mP s.2 p0 18)) else (s225L34_54 p0 p1 s.2 s.1 1 s.1 (mP s.2 p0 18))) else none)
set_option maxRecDepth 20000 in
theorem t225L34 (p0 : Nat) (p1 : Int32) {r : Option Value × mM} (s : Int32 × mM) (o : ((Int32 × mM) ⊕ ((mM) ⊕ mM))) (hr : s225L34 p0 p1 s = some o) (hC : Sum.elim (fun s' : Int32 × mM => ∀ (w3 : Value) (hw3 : mNotL w3 = true) (w4 : Value) (hw4 : mNotL w4 = true), mGo mG (225, List.drop 34 mC225, [.ref p0, .int p1, .int s'.1, w3, w4], [], s'.2) r) (Sum.elim (fun x : mM => ∀ (w2 : Value) (hw2 : mNotL w2 = true) (w3 : Value) (hw3 : mNotL w3 = true) (w4 : Value) (hw4 : mNotL w4 = true), mGo mG (225, List.drop 62 mC225, [.ref p0, .int p1, w2, w3, w4], [], x) r) (fun y : mM => r = (none, y))) o) : ∀ (w3 : Value) (hw3 : mNotL w3 = true) (w4 : Value) (hw4 : mNotL w4 = true), mGo mG (225, List.drop 34 mC225, [.ref p0, .int p1, .int s.1, w3, w4], [], s.2) r := by
  intro w3 hw3 w4 hw4
  unfold s225L34 at hr
  refine mGo.steps 2 (c' := (225, List.drop 36 mC225, [.ref p0, .int p1, .int s.1, w3, w4], [.int 10, .int s.1], s.2)) rfl ?_
  rcases mIte hr with ⟨h30, hr⟩ | ⟨h30, hr⟩
  · refine gBrT (p := 10 ≤ s.1) (y := 225) (is := List.drop 37 mC225) (L := [.ref p0, .int p1, .int s.1, w3, w4]) (st := []) (μ := s.2) (t := 106) rfl h30 ?_
    obtain rfl := Option.some.inj hr
    exact hC (.int s.1) rfl w3 hw3 w4 hw4
  · refine gBrF (p := 10 ≤ s.1) (y := 225) (is := List.drop 37 mC225) (L := [.ref p0, .int p1, .int s.1, w3, w4]) (st := []) (μ := s.2) (t := 106) rfl h30 ?_
    refine mGo.steps 1 (c' := (225, List.drop 38 mC225, [.ref p0, .int p1, .int s.1, w3, w4], [.ref p0], s.2)) rfl ?_
    obtain ⟨h17, hr⟩ := mIf hr
    refine gGet (is := List.drop 39 mC225) (v := .ref (mP s.2 p0 18)) h17 rfl ?_
    refine mGo.steps 4 (c' := (225, List.drop 43 mC225, [.ref p0, .int p1, .int s.1, w3, w4], [.int 0, .int s.1, .ref p0, .int s.1, .ref (mP s.2 p0 18)], s.2)) rfl ?_
    obtain ⟨q18, h19, hr⟩ := mBi hr
    refine gCall (z := 159) (n := 2) (f := 0) (kind := 1) (a := p0) (As := [.int s.1, .int 0]) (y := 225) (is := List.drop 44 mC225) (L := [.ref p0, .int p1, .int s.1, w3, w4]) (rest := [.int s.1, .ref (mP s.2 p0 18)]) (μ := s.2) rfl (by decide) (by decide) ⟨rfl, rfl⟩ rfl h17 (Nat.le_of_ble_eq_true rfl) (Nat.le_of_ble_eq_true rfl) (t159 h19) ?_
    refine mGo.steps 1 (c' := (225, List.drop 45 mC225, [.ref p0, .int p1, .int s.1, w3, w4], [.int 1, .int q18, .int s.1, .ref (mP s.2 p0 18)], s.2)) rfl ?_
    rcases mIte hr with ⟨h29, hr⟩ | ⟨h29, hr⟩
    · refine gBrT (p := ¬ q18 = 1) (y := 225) (is := List.drop 46 mC225) (L := [.ref p0, .int p1, .int s.1, w3, w4]) (st := [.int s.1, .ref (mP s.2 p0 18)]) (μ := s.2) (t := 91) rfl h29 ?_
      exact t225L34_53 p0 p1 s.2 s.1 s.1 (mP s.2 p0 18) w3 hw3 w4 hw4 hr hC
    · refine gBrF (p := ¬ q18 = 1) (y := 225) (is := List.drop 46 mC225) (L := [.ref p0, .int p1, .int s.1, w3, w4]) (st := [.int s.1, .ref (mP s.2 p0 18)]) (μ := s.2) (t := 91) rfl h29 ?_
      refine mGo.steps 3 (c' := (225, List.drop 49 mC225, [.ref p0, .int p1, .int s.1, w3, w4], [.int 1, .int s.1, .ref p0, .int s.1, .ref (mP s.2 p0 18)], s.2)) rfl ?_
      obtain ⟨q26, h27, hr⟩ := mBi hr
      refine gCall (z := 159) (n := 2) (f := 0) (kind := 1) (a := p0) (As := [.int s.1, .int 1]) (y := 225) (is := List.drop 50 mC225) (L := [.ref p0, .int p1, .int s.1, w3, w4]) (rest := [.int s.1, .ref (mP s.2 p0 18)]) (μ := s.2) rfl (by decide) (by decide) ⟨rfl, rfl⟩ rfl h17 (Nat.le_of_ble_eq_true rfl) (Nat.le_of_ble_eq_true rfl) (t159 h27) ?_
      rcases mIte hr with ⟨h28, hr⟩ | ⟨h28, hr⟩
      · refine gBrT (p := q26 ≤ 0) (y := 225) (is := List.drop 51 mC225) (L := [.ref p0, .int p1, .int s.1, w3, w4]) (st := [.int s.1, .ref (mP s.2 p0 18)]) (μ := s.2) (t := 91) rfl h28 ?_
        exact t225L34_53 p0 p1 s.2 s.1 s.1 (mP s.2 p0 18) w3 hw3 w4 hw4 hr hC
      · refine gBrF (p := q26 ≤ 0) (y := 225) (is := List.drop 51 mC225) (L := [.ref p0, .int p1, .int s.1, w3, w4]) (st := [.int s.1, .ref (mP s.2 p0 18)]) (μ := s.2) (t := 91) rfl h28 ?_
        refine mGo.steps 2 (c' := (225, List.drop 54 mC225, [.ref p0, .int p1, .int s.1, w3, w4], [.int 1, .int s.1, .ref (mP s.2 p0 18)], s.2)) rfl ?_
        exact t225L34_54 p0 p1 s.2 s.1 1 s.1 (mP s.2 p0 18) w3 hw3 w4 hw4 hr hC
theorem t225L34l (p0 : Nat) (p1 : Int32) {r : Option Value × mM} (n : Nat) (s : Int32 × mM) (o : (mM) ⊕ mM) (hr : mLoop (s225L34 p0 p1) n s = some o) (hC : Sum.elim (fun x : mM => ∀ (w2 : Value) (hw2 : mNotL w2 = true) (w3 : Value) (hw3 : mNotL w3 = true) (w4 : Value) (hw4 : mNotL w4 = true), mGo mG (225, List.drop 62 mC225, [.ref p0, .int p1, w2, w3, w4], [], x) r) (fun y : mM => r = (none, y)) o) : ∀ (w3 : Value) (hw3 : mNotL w3 = true) (w4 : Value) (hw4 : mNotL w4 = true), mGo mG (225, List.drop 34 mC225, [.ref p0, .int p1, .int s.1, w3, w4], [], s.2) r :=
  mLoop_go (Hd := (fun s' : Int32 × mM => ∀ (w3 : Value) (hw3 : mNotL w3 = true) (w4 : Value) (hw4 : mNotL w4 = true), mGo mG (225, List.drop 34 mC225, [.ref p0, .int p1, .int s'.1, w3, w4], [], s'.2) r)) (fun s o hb hC => t225L34 p0 p1 s o hb hC) n s o hr hC
def s225L66L80_111 (p0 : Nat) (p1 : Int32) (p2 : Int32) (p3 : UInt32) (μ : mM) (v4 : Int32) : Option ((Int32 × mM) ⊕ ((mM) ⊕ mM)) :=
  some (.inl (v4 + 1, μ))
set_option maxRecDepth 20000 in
theorem t225L66L80_111 (p0 : Nat) (p1 : Int32) (p2 : Int32) (p3 : UInt32) (μ : mM) (v4 : Int32) {o : ((Int32 × mM) ⊕ ((mM) ⊕ mM))} {r : Option Value × mM} (hr : s225L66L80_111 p0 p1 p2 p3 μ v4 = some o) (hC : Sum.elim (fun s' : Int32 × mM => mGo mG (225, List.drop 80 mC225, [.ref p0, .int p1, .int p2, .float p3, .int s'.1], [], s'.2) r) (Sum.elim (fun x : mM => ∀ (w2 : Value) (hw2 : mNotL w2 = true) (w3 : Value) (hw3 : mNotL w3 = true) (w4 : Value) (hw4 : mNotL w4 = true), mGo mG (225, List.drop 113 mC225, [.ref p0, .int p1, w2, w3, w4], [], x) r) (fun y : mM => r = (none, y))) o) : mGo mG (225, List.drop 111 mC225, [.ref p0, .int p1, .int p2, .float p3, .int v4], [], μ) r := by
  unfold s225L66L80_111 at hr
  refine mGo.steps 2 (c' := (225, List.drop 80 mC225, [.ref p0, .int p1, .int p2, .float p3, .int (v4 + 1)], [], μ)) rfl ?_
  obtain rfl := Option.some.inj hr
  exact hC
def s225L66L80 (p0 : Nat) (p1 : Int32) (p2 : Int32) (p3 : UInt32) (s : Int32 × mM) : Option ((Int32 × mM) ⊕ ((mM) ⊕ mM)) :=
  if 10 ≤ s.1 then (some (.inr (.inl s.2))) else (if (mS s.2 p0).1 = 9 then if (mS s.2 (mP s.2 p0 18)).1 = 12 ∧ mInb s.1 (mS s.2 (mP s.2 p0 18)).2 then if (mI s.2 (mP s.2 p0 18) (Int32.toNatClampNeg s.1)) = 0 then (s225L66L80_111 p0 p1 p2 p3 s.2 s.1) else ((s162 s.2 p0 s.1 p2 p1).bind fun q45 => if q45 = 0 then (s225L66L80_111 p0 p1 p2 p3 s.2 s.1) else ((s222 s.2 p0 s.1).bind fun q47 => if FP.fmul p3 q47 &&& 0x7fffffff ≤ 0x7f800000 then if (mS s.2 (mP s.2 p0 17)).1 = 11 ∧ mInb s.1 (mS s.2 (mP s.2 p0 17)).2 then (some (mUF s.2 (mP s.2 p0 17) (Int32.toNatClampNeg s.1) (FP.fmul p3 q47))).bind fun μ51 => if (mS μ51 (mP μ51 p0 18)).1 = 12 ∧ mInb s.1 (mS μ51 (mP μ51 p0 18)).2 then (some (mUI μ51 (mP μ51 p0 18) (Int32.toNatClampNeg s.1) 0)).bind fun μ53 => (s226 μ53 p0 s.1).bind fun q54 => s225L66L80_111 p0 p1 p2 p3 q54 s.1 else none else none else none)) else none else none)
set_option maxRecDepth 20000 in
theorem t225L66L80 (p0 : Nat) (p1 : Int32) (p2 : Int32) (p3 : UInt32) {r : Option Value × mM} (s : Int32 × mM) (o : ((Int32 × mM) ⊕ ((mM) ⊕ mM))) (hr : s225L66L80 p0 p1 p2 p3 s = some o) (hC : Sum.elim (fun s' : Int32 × mM => mGo mG (225, List.drop 80 mC225, [.ref p0, .int p1, .int p2, .float p3, .int s'.1], [], s'.2) r) (Sum.elim (fun x : mM => ∀ (w2 : Value) (hw2 : mNotL w2 = true) (w3 : Value) (hw3 : mNotL w3 = true) (w4 : Value) (hw4 : mNotL w4 = true), mGo mG (225, List.drop 113 mC225, [.ref p0, .int p1, w2, w3, w4], [], x) r) (fun y : mM => r = (none, y))) o) : mGo mG (225, List.drop 80 mC225, [.ref p0, .int p1, .int p2, .float p3, .int s.1], [], s.2) r := by
  unfold s225L66L80 at hr
  refine mGo.steps 2 (c' := (225, List.drop 82 mC225, [.ref p0, .int p1, .int p2, .float p3, .int s.1], [.int 10, .int s.1], s.2)) rfl ?_
  rcases mIte hr with ⟨h58, hr⟩ | ⟨h58, hr⟩
  · refine gBrT (p := 10 ≤ s.1) (y := 225) (is := List.drop 83 mC225) (L := [.ref p0, .int p1, .int p2, .float p3, .int s.1]) (st := []) (μ := s.2) (t := 196) rfl h58 ?_
    obtain rfl := Option.some.inj hr
    exact hC (.int p2) rfl (.float p3) rfl (.int s.1) rfl
  · refine gBrF (p := 10 ≤ s.1) (y := 225) (is := List.drop 83 mC225) (L := [.ref p0, .int p1, .int p2, .float p3, .int s.1]) (st := []) (μ := s.2) (t := 196) rfl h58 ?_
    refine mGo.steps 1 (c' := (225, List.drop 84 mC225, [.ref p0, .int p1, .int p2, .float p3, .int s.1], [.ref p0], s.2)) rfl ?_
    obtain ⟨h43, hr⟩ := mIf hr
    refine gGet (is := List.drop 85 mC225) (v := .ref (mP s.2 p0 18)) h43 rfl ?_
    refine mGo.steps 1 (c' := (225, List.drop 86 mC225, [.ref p0, .int p1, .int p2, .float p3, .int s.1], [.int s.1, .ref (mP s.2 p0 18)], s.2)) rfl ?_
    obtain ⟨h44, hr⟩ := mIf hr
    refine gBald (is := List.drop 87 mC225) h44 ?_
    rcases mIte hr with ⟨h57, hr⟩ | ⟨h57, hr⟩
    · refine gBrT (p := (mI s.2 (mP s.2 p0 18) (Int32.toNatClampNeg s.1)) = 0) (y := 225) (is := List.drop 88 mC225) (L := [.ref p0, .int p1, .int p2, .float p3, .int s.1]) (st := []) (μ := s.2) (t := 190) rfl h57 ?_
      exact t225L66L80_111 p0 p1 p2 p3 s.2 s.1 hr hC
    · refine gBrF (p := (mI s.2 (mP s.2 p0 18) (Int32.toNatClampNeg s.1)) = 0) (y := 225) (is := List.drop 88 mC225) (L := [.ref p0, .int p1, .int p2, .float p3, .int s.1]) (st := []) (μ := s.2) (t := 190) rfl h57 ?_
      refine mGo.steps 4 (c' := (225, List.drop 92 mC225, [.ref p0, .int p1, .int p2, .float p3, .int s.1], [.int p1, .int p2, .int s.1, .ref p0], s.2)) rfl ?_
      obtain ⟨q45, h46, hr⟩ := mBi hr
      refine gCall (z := 162) (n := 3) (f := 0) (kind := 1) (a := p0) (As := [.int s.1, .int p2, .int p1]) (y := 225) (is := List.drop 93 mC225) (L := [.ref p0, .int p1, .int p2, .float p3, .int s.1]) (rest := []) (μ := s.2) rfl (by decide) (by decide) ⟨rfl, rfl⟩ rfl h43 (Nat.le_of_ble_eq_true rfl) (Nat.le_of_ble_eq_true rfl) (t162 h46) ?_
      rcases mIte hr with ⟨h56, hr⟩ | ⟨h56, hr⟩
      · refine gBrT (p := q45 = 0) (y := 225) (is := List.drop 94 mC225) (L := [.ref p0, .int p1, .int p2, .float p3, .int s.1]) (st := []) (μ := s.2) (t := 190) rfl h56 ?_
        exact t225L66L80_111 p0 p1 p2 p3 s.2 s.1 hr hC
      · refine gBrF (p := q45 = 0) (y := 225) (is := List.drop 94 mC225) (L := [.ref p0, .int p1, .int p2, .float p3, .int s.1]) (st := []) (μ := s.2) (t := 190) rfl h56 ?_
        refine mGo.steps 1 (c' := (225, List.drop 95 mC225, [.ref p0, .int p1, .int p2, .float p3, .int s.1], [.ref p0], s.2)) rfl ?_
        refine gGet (is := List.drop 96 mC225) (v := .ref (mP s.2 p0 17)) h43 rfl ?_
        refine mGo.steps 4 (c' := (225, List.drop 100 mC225, [.ref p0, .int p1, .int p2, .float p3, .int s.1], [.int s.1, .ref p0, .float p3, .int s.1, .ref (mP s.2 p0 17)], s.2)) rfl ?_
        obtain ⟨q47, h48, hr⟩ := mBi hr
        refine gCall (z := 222) (n := 1) (f := 0) (kind := 1) (a := p0) (As := [.int s.1]) (y := 225) (is := List.drop 101 mC225) (L := [.ref p0, .int p1, .int p2, .float p3, .int s.1]) (rest := [.float p3, .int s.1, .ref (mP s.2 p0 17)]) (μ := s.2) rfl (by decide) (by decide) ⟨rfl, rfl⟩ rfl h43 (Nat.le_of_ble_eq_true rfl) (Nat.le_of_ble_eq_true rfl) (t222 h48) ?_
        obtain ⟨h49, hr⟩ := mIf hr
        refine gFmul (is := List.drop 102 mC225) h49 ?_
        obtain ⟨h50, hr⟩ := mIf hr
        replace hr := mBs hr
        refine gFast (is := List.drop 103 mC225) h50 ?_
        let μ51 : mM := mUF s.2 (mP s.2 p0 17) (Int32.toNatClampNeg s.1) (FP.fmul p3 q47)
        refine mGo.steps 1 (c' := (225, List.drop 104 mC225, [.ref p0, .int p1, .int p2, .float p3, .int s.1], [.ref p0], μ51)) rfl ?_
        refine gGet (is := List.drop 105 mC225) (v := .ref (mP μ51 p0 18)) h43 rfl ?_
        refine mGo.steps 2 (c' := (225, List.drop 107 mC225, [.ref p0, .int p1, .int p2, .float p3, .int s.1], [.int 0, .int s.1, .ref (mP μ51 p0 18)], μ51)) rfl ?_
        obtain ⟨h52, hr⟩ := mIf hr
        replace hr := mBs hr
        refine gBast (is := List.drop 108 mC225) h52 (by decide) ?_
        let μ53 : mM := mUI μ51 (mP μ51 p0 18) (Int32.toNatClampNeg s.1) 0
        refine mGo.steps 2 (c' := (225, List.drop 110 mC225, [.ref p0, .int p1, .int p2, .float p3, .int s.1], [.int s.1, .ref p0], μ53)) rfl ?_
        obtain ⟨q54, h55, hr⟩ := mBi hr
        refine gCall (z := 226) (n := 1) (f := 0) (kind := 1) (a := p0) (As := [.int s.1]) (y := 225) (is := List.drop 111 mC225) (L := [.ref p0, .int p1, .int p2, .float p3, .int s.1]) (rest := []) (μ := μ53) rfl (by decide) (by decide) ⟨rfl, rfl⟩ rfl h43 (Nat.le_of_ble_eq_true rfl) (Nat.le_of_ble_eq_true rfl) (t226 h55) ?_
        exact t225L66L80_111 p0 p1 p2 p3 q54 s.1 hr hC
theorem t225L66L80l (p0 : Nat) (p1 : Int32) (p2 : Int32) (p3 : UInt32) {r : Option Value × mM} (n : Nat) (s : Int32 × mM) (o : (mM) ⊕ mM) (hr : mLoop (s225L66L80 p0 p1 p2 p3) n s = some o) (hC : Sum.elim (fun x : mM => ∀ (w2 : Value) (hw2 : mNotL w2 = true) (w3 : Value) (hw3 : mNotL w3 = true) (w4 : Value) (hw4 : mNotL w4 = true), mGo mG (225, List.drop 113 mC225, [.ref p0, .int p1, w2, w3, w4], [], x) r) (fun y : mM => r = (none, y)) o) : mGo mG (225, List.drop 80 mC225, [.ref p0, .int p1, .int p2, .float p3, .int s.1], [], s.2) r :=
  mLoop_go (Hd := (fun s' : Int32 × mM => mGo mG (225, List.drop 80 mC225, [.ref p0, .int p1, .int p2, .float p3, .int s'.1], [], s'.2) r)) (fun s o hb hC => t225L66L80 p0 p1 p2 p3 s o hb hC) n s o hr hC
def s225L66 (p0 : Nat) (p1 : Int32) (s : Int32 × mM) : Option ((Int32 × mM) ⊕ ((mM) ⊕ mM)) :=
  if s.1 ≤ 0 then (some (.inr (.inl s.2))) else (if (mS s.2 p0).1 = 9 then if (mS s.2 (mP s.2 p0 16)).1 = 11 ∧ mInb s.1 (mS s.2 (mP s.2 p0 16)).2 then (s223 s.2 p0 s.1 p1).bind fun q40 => if FP.fdiv (mF s.2 (mP s.2 p0 16) (Int32.toNatClampNeg s.1)) q40 &&& 0x7fffffff ≤ 0x7f800000 then (mLoop (s225L66L80 p0 p1 s.1 (FP.fdiv (mF s.2 (mP s.2 p0 16) (Int32.toNatClampNeg s.1)) q40)) 1000 (0, s.2)).bind fun o59 => Sum.elim (fun x60 => if (mS x60 p0).1 = 9 then (s224 x60 p0 p1).bind fun q64 => some (.inl (q64, x60)) else none) (fun y61 => some (.inr (.inr y61))) o59 else none else none else none)
set_option maxRecDepth 20000 in
theorem t225L66 (p0 : Nat) (p1 : Int32) {r : Option Value × mM} (s : Int32 × mM) (o : ((Int32 × mM) ⊕ ((mM) ⊕ mM))) (hr : s225L66 p0 p1 s = some o) (hC : Sum.elim (fun s' : Int32 × mM => ∀ (w3 : Value) (hw3 : mNotL w3 = true) (w4 : Value) (hw4 : mNotL w4 = true), mGo mG (225, List.drop 66 mC225, [.ref p0, .int p1, .int s'.1, w3, w4], [], s'.2) r) (Sum.elim (fun x : mM => ∀ (w0 : Value) (hw0 : mNotL w0 = true) (w1 : Value) (hw1 : mNotL w1 = true) (w2 : Value) (hw2 : mNotL w2 = true) (w3 : Value) (hw3 : mNotL w3 = true) (w4 : Value) (hw4 : mNotL w4 = true), mGo mG (225, List.drop 118 mC225, [w0, w1, w2, w3, w4], [], x) r) (fun y : mM => r = (none, y))) o) : ∀ (w3 : Value) (hw3 : mNotL w3 = true) (w4 : Value) (hw4 : mNotL w4 = true), mGo mG (225, List.drop 66 mC225, [.ref p0, .int p1, .int s.1, w3, w4], [], s.2) r := by
  intro w3 hw3 w4 hw4
  unfold s225L66 at hr
  refine mGo.steps 1 (c' := (225, List.drop 67 mC225, [.ref p0, .int p1, .int s.1, w3, w4], [.int s.1], s.2)) rfl ?_
  rcases mIte hr with ⟨h66, hr⟩ | ⟨h66, hr⟩
  · refine gBrT (p := s.1 ≤ 0) (y := 225) (is := List.drop 68 mC225) (L := [.ref p0, .int p1, .int s.1, w3, w4]) (st := []) (μ := s.2) (t := 205) rfl h66 ?_
    obtain rfl := Option.some.inj hr
    exact hC (.ref p0) rfl (.int p1) rfl (.int s.1) rfl w3 hw3 w4 hw4
  · refine gBrF (p := s.1 ≤ 0) (y := 225) (is := List.drop 68 mC225) (L := [.ref p0, .int p1, .int s.1, w3, w4]) (st := []) (μ := s.2) (t := 205) rfl h66 ?_
    refine mGo.steps 1 (c' := (225, List.drop 69 mC225, [.ref p0, .int p1, .int s.1, w3, w4], [.ref p0], s.2)) rfl ?_
    obtain ⟨h38, hr⟩ := mIf hr
    refine gGet (is := List.drop 70 mC225) (v := .ref (mP s.2 p0 16)) h38 rfl ?_
    refine mGo.steps 1 (c' := (225, List.drop 71 mC225, [.ref p0, .int p1, .int s.1, w3, w4], [.int s.1, .ref (mP s.2 p0 16)], s.2)) rfl ?_
    obtain ⟨h39, hr⟩ := mIf hr
    refine gFald (is := List.drop 72 mC225) h39 ?_
    refine mGo.steps 3 (c' := (225, List.drop 75 mC225, [.ref p0, .int p1, .int s.1, w3, w4], [.int p1, .int s.1, .ref p0, .float (mF s.2 (mP s.2 p0 16) (Int32.toNatClampNeg s.1))], s.2)) rfl ?_
    obtain ⟨q40, h41, hr⟩ := mBi hr
    refine gCall (z := 223) (n := 2) (f := 0) (kind := 1) (a := p0) (As := [.int s.1, .int p1]) (y := 225) (is := List.drop 76 mC225) (L := [.ref p0, .int p1, .int s.1, w3, w4]) (rest := [.float (mF s.2 (mP s.2 p0 16) (Int32.toNatClampNeg s.1))]) (μ := s.2) rfl (by decide) (by decide) ⟨rfl, rfl⟩ rfl h38 (Nat.le_of_ble_eq_true rfl) (Nat.le_of_ble_eq_true rfl) (t223 h41) ?_
    obtain ⟨h42, hr⟩ := mIf hr
    refine gFdiv (is := List.drop 77 mC225) h42 ?_
    refine mGo.steps 3 (c' := (225, List.drop 80 mC225, [.ref p0, .int p1, .int s.1, .float (FP.fdiv (mF s.2 (mP s.2 p0 16) (Int32.toNatClampNeg s.1)) q40), .int 0], [], s.2)) rfl ?_
    obtain ⟨o59, h62, hr⟩ := mBi hr
    refine t225L66L80l p0 p1 s.1 (FP.fdiv (mF s.2 (mP s.2 p0 16) (Int32.toNatClampNeg s.1)) q40) 1000 (0, s.2) o59 h62 ?_ 
    cases o59 with
    | inl x60 =>
      show ∀ (w2 : Value) (hw2 : mNotL w2 = true) (w3 : Value) (hw3 : mNotL w3 = true) (w4 : Value) (hw4 : mNotL w4 = true), mGo mG (225, List.drop 113 mC225, [.ref p0, .int p1, w2, w3, w4], [], x60) r
      intro w2 hw2 w3 hw3 w4 hw4
      replace hr : (_) = some _ := hr
      refine mGo.steps 2 (c' := (225, List.drop 115 mC225, [.ref p0, .int p1, w2, w3, w4], [.int p1, .ref p0], x60)) rfl ?_
      obtain ⟨h63, hr⟩ := mIf hr
      obtain ⟨q64, h65, hr⟩ := mBi hr
      refine gCall (z := 224) (n := 1) (f := 0) (kind := 1) (a := p0) (As := [.int p1]) (y := 225) (is := List.drop 116 mC225) (L := [.ref p0, .int p1, w2, w3, w4]) (rest := []) (μ := x60) rfl (by decide) (by decide) ⟨rfl, rfl⟩ rfl h63 (Nat.le_of_ble_eq_true rfl) (Nat.le_of_ble_eq_true rfl) (t224 h65) ?_
      refine mGo.steps 2 (c' := (225, List.drop 66 mC225, [.ref p0, .int p1, .int q64, w3, w4], [], x60)) rfl ?_
      obtain rfl := Option.some.inj hr
      exact hC w3 hw3 w4 hw4
    | inr y61 =>
      obtain rfl := Option.some.inj hr
      exact hC
theorem t225L66l (p0 : Nat) (p1 : Int32) {r : Option Value × mM} (n : Nat) (s : Int32 × mM) (o : (mM) ⊕ mM) (hr : mLoop (s225L66 p0 p1) n s = some o) (hC : Sum.elim (fun x : mM => ∀ (w0 : Value) (hw0 : mNotL w0 = true) (w1 : Value) (hw1 : mNotL w1 = true) (w2 : Value) (hw2 : mNotL w2 = true) (w3 : Value) (hw3 : mNotL w3 = true) (w4 : Value) (hw4 : mNotL w4 = true), mGo mG (225, List.drop 118 mC225, [w0, w1, w2, w3, w4], [], x) r) (fun y : mM => r = (none, y)) o) : ∀ (w3 : Value) (hw3 : mNotL w3 = true) (w4 : Value) (hw4 : mNotL w4 = true), mGo mG (225, List.drop 66 mC225, [.ref p0, .int p1, .int s.1, w3, w4], [], s.2) r :=
  mLoop_go (Hd := (fun s' : Int32 × mM => ∀ (w3 : Value) (hw3 : mNotL w3 = true) (w4 : Value) (hw4 : mNotL w4 = true), mGo mG (225, List.drop 66 mC225, [.ref p0, .int p1, .int s'.1, w3, w4], [], s'.2) r)) (fun s o hb hC => t225L66 p0 p1 s o hb hC) n s o hr hC
def s225 (μ : mM) (a0 : Nat) (a1 : Int32) : Option mM :=
  (mLoop (s225L2 a0 a1) 1000 (1, μ)).bind fun o13 => Sum.elim (fun x14 => (mLoop (s225L34 a0 a1) 1000 (0, x14)).bind fun o31 => Sum.elim (fun x32 => if (mS x32 a0).1 = 9 then (s224 x32 a0 a1).bind fun q36 => (mLoop (s225L66 a0 a1) 1000 (q36, x32)).bind fun o67 => Sum.elim (fun x68 => some x68) (fun y69 => some y69) o67 else none) (fun y33 => some y33) o31) (fun y15 => some y15) o13
set_option maxRecDepth 20000 in
theorem t225 {μ : mM} {a0 : Nat} {a1 : Int32} {o : mM} (hr : s225 μ a0 a1 = some o) : mEv mG 225 [.ref a0, .int a1] μ (none) (o) := by
  obtain ⟨r, hC⟩ : ∃ r : Option Value × mM, r = (none, o) := ⟨_, rfl⟩
  show mGo mG (225, List.drop 0 mC225, [.ref a0, .int a1, .retAddr 0, .retAddr 0, .retAddr 0], [], μ) (none, o)
  rw [← hC]
  unfold s225 at hr
  refine mGo.steps 2 (c' := (225, List.drop 2 mC225, [.ref a0, .int a1, .int 1, .retAddr 0, .retAddr 0], [], μ)) rfl ?_
  obtain ⟨o13, h16, hr⟩ := mBi hr
  refine t225L2l a0 a1 1000 (1, μ) o13 h16 ?_ (.retAddr 0) rfl (.retAddr 0) rfl
  cases o13 with
  | inl x14 =>
    show ∀ (w2 : Value) (hw2 : mNotL w2 = true) (w3 : Value) (hw3 : mNotL w3 = true) (w4 : Value) (hw4 : mNotL w4 = true), mGo mG (225, List.drop 32 mC225, [.ref a0, .int a1, w2, w3, w4], [], x14) r
    intro w2 hw2 w3 hw3 w4 hw4
    replace hr : (_) = some _ := hr
    refine mGo.steps 2 (c' := (225, List.drop 34 mC225, [.ref a0, .int a1, .int 0, w3, w4], [], x14)) rfl ?_
    obtain ⟨o31, h34, hr⟩ := mBi hr
    refine t225L34l a0 a1 1000 (0, x14) o31 h34 ?_ w3 hw3 w4 hw4
    cases o31 with
    | inl x32 =>
      show ∀ (w2 : Value) (hw2 : mNotL w2 = true) (w3 : Value) (hw3 : mNotL w3 = true) (w4 : Value) (hw4 : mNotL w4 = true), mGo mG (225, List.drop 62 mC225, [.ref a0, .int a1, w2, w3, w4], [], x32) r
      intro w2 hw2 w3 hw3 w4 hw4
      replace hr : (_) = some _ := hr
      refine mGo.steps 2 (c' := (225, List.drop 64 mC225, [.ref a0, .int a1, w2, w3, w4], [.int a1, .ref a0], x32)) rfl ?_
      obtain ⟨h35, hr⟩ := mIf hr
      obtain ⟨q36, h37, hr⟩ := mBi hr
      refine gCall (z := 224) (n := 1) (f := 0) (kind := 1) (a := a0) (As := [.int a1]) (y := 225) (is := List.drop 65 mC225) (L := [.ref a0, .int a1, w2, w3, w4]) (rest := []) (μ := x32) rfl (by decide) (by decide) ⟨rfl, rfl⟩ rfl h35 (Nat.le_of_ble_eq_true rfl) (Nat.le_of_ble_eq_true rfl) (t224 h37) ?_
      refine mGo.steps 1 (c' := (225, List.drop 66 mC225, [.ref a0, .int a1, .int q36, w3, w4], [], x32)) rfl ?_
      obtain ⟨o67, h70, hr⟩ := mBi hr
      refine t225L66l a0 a1 1000 (q36, x32) o67 h70 ?_ w3 hw3 w4 hw4
      cases o67 with
      | inl x68 =>
        show ∀ (w0 : Value) (hw0 : mNotL w0 = true) (w1 : Value) (hw1 : mNotL w1 = true) (w2 : Value) (hw2 : mNotL w2 = true) (w3 : Value) (hw3 : mNotL w3 = true) (w4 : Value) (hw4 : mNotL w4 = true), mGo mG (225, List.drop 118 mC225, [w0, w1, w2, w3, w4], [], x68) r
        intro w0 hw0 w1 hw1 w2 hw2 w3 hw3 w4 hw4
        replace hr : (_) = some _ := hr
        obtain rfl := Option.some.inj hr
        rw [show r = _ from hC]
        exact gVret rfl
      | inr y69 =>
        obtain rfl := Option.some.inj hr
        exact hC
    | inr y33 =>
      obtain rfl := Option.some.inj hr
      exact hC
  | inr y15 =>
    obtain rfl := Option.some.inj hr
    exact hC

/-! 227: TunnelFabricModel.fairShare(II)I -/
def s227_9 (a0 : Nat) (a1 : Int32) (a2 : Int32) (μ : mM) : Option (Int32 × mM) :=
  some ((-1), μ)
set_option maxRecDepth 20000 in
theorem t227_9 (a0 : Nat) (a1 : Int32) (a2 : Int32) (μ : mM) (w0 : Value) (hw0 : mNotL w0 = true) (w1 : Value) (hw1 : mNotL w1 = true) (w2 : Value) (hw2 : mNotL w2 = true) {o : (Int32 × mM)} {r : Option Value × mM} (hr : s227_9 a0 a1 a2 μ = some o) (hC : r = (some (.int o.1), o.2)) : mGo mG (227, List.drop 9 mC227, [w0, w1, w2], [], μ) r := by
  unfold s227_9 at hr
  refine mGo.steps 1 (c' := (227, List.drop 10 mC227, [w0, w1, w2], [.int (-1)], μ)) rfl ?_
  obtain rfl := Option.some.inj hr
  rw [show r = _ from hC]
  exact gIret rfl
def s227_26 (a0 : Nat) (a1 : Int32) (a2 : Int32) (μ : mM) (t0 : Int32) : Option (Int32 × mM) :=
  some (t0, μ)
set_option maxRecDepth 20000 in
theorem t227_26 (a0 : Nat) (a1 : Int32) (a2 : Int32) (μ : mM) (t0 : Int32) (w0 : Value) (hw0 : mNotL w0 = true) (w1 : Value) (hw1 : mNotL w1 = true) (w2 : Value) (hw2 : mNotL w2 = true) {o : (Int32 × mM)} {r : Option Value × mM} (hr : s227_26 a0 a1 a2 μ t0 = some o) (hC : r = (some (.int o.1), o.2)) : mGo mG (227, List.drop 26 mC227, [w0, w1, w2], [.int t0], μ) r := by
  unfold s227_26 at hr
  obtain rfl := Option.some.inj hr
  rw [show r = _ from hC]
  exact gIret rfl
def s227 (μ : mM) (a0 : Nat) (a1 : Int32) (a2 : Int32) : Option (Int32 × mM) :=
  if (mS μ a0).1 = 9 then (s161 μ a0 a1).bind fun q2 => if q2 = 0 then (s227_9 a0 a1 a2 μ) else ((s144 μ a2 0 1).bind fun q4 => if ¬ q4 = 0 then ((s159 μ a0 a1 1).bind fun q6 => if ¬ q6 = 0 then ((s225 μ a0 a2).bind fun q8 => if (mS q8 a0).1 = 9 then if (mS q8 (mP q8 a0 17)).1 = 11 ∧ mInb a1 (mS q8 (mP q8 a0 17)).2 then (s194 q8 (mF q8 (mP q8 a0 17) (Int32.toNatClampNeg a1))).bind fun q12 => some (q12, q8) else none else none) else (if ¬ a2 = 0 then (s227_26 a0 a1 a2 μ 0) else ((s159 μ a0 a1 4).bind fun q14 => (s194 μ (FP.i2f q14)).bind fun q16 => s227_26 a0 a1 a2 μ q16))) else (s227_9 a0 a1 a2 μ)) else none
set_option maxRecDepth 20000 in
theorem t227 {μ : mM} {a0 : Nat} {a1 : Int32} {a2 : Int32} {o : (Int32 × mM)} (hr : s227 μ a0 a1 a2 = some o) : mEv mG 227 [.ref a0, .int a1, .int a2] μ (some (.int o.1)) (o.2) := by
  obtain ⟨r, hC⟩ : ∃ r : Option Value × mM, r = (some (.int o.1), o.2) := ⟨_, rfl⟩
  show mGo mG (227, List.drop 0 mC227, [.ref a0, .int a1, .int a2], [], μ) (some (.int o.1), o.2)
  rw [← hC]
  unfold s227 at hr
  refine mGo.steps 2 (c' := (227, List.drop 2 mC227, [.ref a0, .int a1, .int a2], [.int a1, .ref a0], μ)) rfl ?_
  obtain ⟨h1, hr⟩ := mIf hr
  obtain ⟨q2, h3, hr⟩ := mBi hr
  refine gCall (z := 161) (n := 1) (f := 0) (kind := 1) (a := a0) (As := [.int a1]) (y := 227) (is := List.drop 3 mC227) (L := [.ref a0, .int a1, .int a2]) (rest := []) (μ := μ) rfl (by decide) (by decide) ⟨rfl, rfl⟩ rfl h1 (Nat.le_of_ble_eq_true rfl) (Nat.le_of_ble_eq_true rfl) (t161 h3) ?_
  rcases mIte hr with ⟨h21, hr⟩ | ⟨h21, hr⟩
  · refine gBrT (p := q2 = 0) (y := 227) (is := List.drop 4 mC227) (L := [.ref a0, .int a1, .int a2]) (st := []) (μ := μ) (t := 17) rfl h21 ?_
    exact t227_9 a0 a1 a2 μ (.ref a0) rfl (.int a1) rfl (.int a2) rfl hr hC
  · refine gBrF (p := q2 = 0) (y := 227) (is := List.drop 4 mC227) (L := [.ref a0, .int a1, .int a2]) (st := []) (μ := μ) (t := 17) rfl h21 ?_
    refine mGo.steps 3 (c' := (227, List.drop 7 mC227, [.ref a0, .int a1, .int a2], [.int 1, .int 0, .int a2], μ)) rfl ?_
    obtain ⟨q4, h5, hr⟩ := mBi hr
    refine mGo.call (z := 144) (as := [.int a2, .int 0, .int 1]) (y := 227) (is := List.drop 8 mC227) (L := [.ref a0, .int a1, .int a2]) (st := []) (μ := μ) rfl (t144 h5) ?_
    rcases mIte hr with ⟨h20, hr⟩ | ⟨h20, hr⟩
    · refine gBrT (p := ¬ q4 = 0) (y := 227) (is := List.drop 9 mC227) (L := [.ref a0, .int a1, .int a2]) (st := []) (μ := μ) (t := 19) rfl h20 ?_
      refine mGo.steps 3 (c' := (227, List.drop 14 mC227, [.ref a0, .int a1, .int a2], [.int 1, .int a1, .ref a0], μ)) rfl ?_
      obtain ⟨q6, h7, hr⟩ := mBi hr
      refine gCall (z := 159) (n := 2) (f := 0) (kind := 1) (a := a0) (As := [.int a1, .int 1]) (y := 227) (is := List.drop 15 mC227) (L := [.ref a0, .int a1, .int a2]) (rest := []) (μ := μ) rfl (by decide) (by decide) ⟨rfl, rfl⟩ rfl h1 (Nat.le_of_ble_eq_true rfl) (Nat.le_of_ble_eq_true rfl) (t159 h7) ?_
      rcases mIte hr with ⟨h19, hr⟩ | ⟨h19, hr⟩
      · refine gBrT (p := ¬ q6 = 0) (y := 227) (is := List.drop 16 mC227) (L := [.ref a0, .int a1, .int a2]) (st := []) (μ := μ) (t := 47) rfl h19 ?_
        refine mGo.steps 2 (c' := (227, List.drop 29 mC227, [.ref a0, .int a1, .int a2], [.int a2, .ref a0], μ)) rfl ?_
        obtain ⟨q8, h9, hr⟩ := mBi hr
        refine gCall (z := 225) (n := 1) (f := 0) (kind := 1) (a := a0) (As := [.int a2]) (y := 227) (is := List.drop 30 mC227) (L := [.ref a0, .int a1, .int a2]) (rest := []) (μ := μ) rfl (by decide) (by decide) ⟨rfl, rfl⟩ rfl h1 (Nat.le_of_ble_eq_true rfl) (Nat.le_of_ble_eq_true rfl) (t225 h9) ?_
        refine mGo.steps 1 (c' := (227, List.drop 31 mC227, [.ref a0, .int a1, .int a2], [.ref a0], q8)) rfl ?_
        obtain ⟨h10, hr⟩ := mIf hr
        refine gGet (is := List.drop 32 mC227) (v := .ref (mP q8 a0 17)) h10 rfl ?_
        refine mGo.steps 1 (c' := (227, List.drop 33 mC227, [.ref a0, .int a1, .int a2], [.int a1, .ref (mP q8 a0 17)], q8)) rfl ?_
        obtain ⟨h11, hr⟩ := mIf hr
        refine gFald (is := List.drop 34 mC227) h11 ?_
        obtain ⟨q12, h13, hr⟩ := mBi hr
        refine mGo.call (z := 194) (as := [.float (mF q8 (mP q8 a0 17) (Int32.toNatClampNeg a1))]) (y := 227) (is := List.drop 35 mC227) (L := [.ref a0, .int a1, .int a2]) (st := []) (μ := q8) rfl (t194 h13) ?_
        obtain rfl := Option.some.inj hr
        rw [show r = _ from hC]
        exact gIret rfl
      · refine gBrF (p := ¬ q6 = 0) (y := 227) (is := List.drop 16 mC227) (L := [.ref a0, .int a1, .int a2]) (st := []) (μ := μ) (t := 47) rfl h19 ?_
        refine mGo.steps 1 (c' := (227, List.drop 17 mC227, [.ref a0, .int a1, .int a2], [.int a2], μ)) rfl ?_
        rcases mIte hr with ⟨h18, hr⟩ | ⟨h18, hr⟩
        · refine gBrT (p := ¬ a2 = 0) (y := 227) (is := List.drop 18 mC227) (L := [.ref a0, .int a1, .int a2]) (st := []) (μ := μ) (t := 45) rfl h18 ?_
          refine mGo.steps 1 (c' := (227, List.drop 26 mC227, [.ref a0, .int a1, .int a2], [.int 0], μ)) rfl ?_
          exact t227_26 a0 a1 a2 μ 0 (.ref a0) rfl (.int a1) rfl (.int a2) rfl hr hC
        · refine gBrF (p := ¬ a2 = 0) (y := 227) (is := List.drop 18 mC227) (L := [.ref a0, .int a1, .int a2]) (st := []) (μ := μ) (t := 45) rfl h18 ?_
          refine mGo.steps 3 (c' := (227, List.drop 21 mC227, [.ref a0, .int a1, .int a2], [.int 4, .int a1, .ref a0], μ)) rfl ?_
          obtain ⟨q14, h15, hr⟩ := mBi hr
          refine gCall (z := 159) (n := 2) (f := 0) (kind := 1) (a := a0) (As := [.int a1, .int 4]) (y := 227) (is := List.drop 22 mC227) (L := [.ref a0, .int a1, .int a2]) (rest := []) (μ := μ) rfl (by decide) (by decide) ⟨rfl, rfl⟩ rfl h1 (Nat.le_of_ble_eq_true rfl) (Nat.le_of_ble_eq_true rfl) (t159 h15) ?_
          refine mGo.steps 1 (c' := (227, List.drop 23 mC227, [.ref a0, .int a1, .int a2], [.float (FP.i2f q14)], μ)) rfl ?_
          obtain ⟨q16, h17, hr⟩ := mBi hr
          refine mGo.call (z := 194) (as := [.float (FP.i2f q14)]) (y := 227) (is := List.drop 24 mC227) (L := [.ref a0, .int a1, .int a2]) (st := []) (μ := μ) rfl (t194 h17) ?_
          refine mGo.steps 1 (c' := (227, List.drop 26 mC227, [.ref a0, .int a1, .int a2], [.int q16], μ)) rfl ?_
          exact t227_26 a0 a1 a2 μ q16 (.ref a0) rfl (.int a1) rfl (.int a2) rfl hr hC
    · refine gBrF (p := ¬ q4 = 0) (y := 227) (is := List.drop 9 mC227) (L := [.ref a0, .int a1, .int a2]) (st := []) (μ := μ) (t := 19) rfl h20 ?_
      exact t227_9 a0 a1 a2 μ (.ref a0) rfl (.int a1) rfl (.int a2) rfl hr hC

/-! 228: TunnelFabricModel.room(I)I -/
def s228_11 (μ : mM) (a0 : Nat) (a1 : Int32) (t0 : Int32) : Option Int32 :=
  some t0
set_option maxRecDepth 20000 in
theorem t228_11 (μ : mM) (a0 : Nat) (a1 : Int32) (t0 : Int32) (w0 : Value) (hw0 : mNotL w0 = true) (w1 : Value) (hw1 : mNotL w1 = true) {o : Int32} {r : Option Value × mM} (hr : s228_11 μ a0 a1 t0 = some o) (hC : r = (some (.int o), μ)) : mGo mG (228, List.drop 11 mC228, [w0, w1], [.int t0], μ) r := by
  unfold s228_11 at hr
  obtain rfl := Option.some.inj hr
  rw [show r = _ from hC]
  exact gIret rfl
def s228 (μ : mM) (a0 : Nat) (a1 : Int32) : Option Int32 :=
  if (mS μ a0).1 = 9 then (s150 μ a0 a1).bind fun q2 => if q2 = 0 then (s228_11 μ a0 a1 (-1)) else ((s169 μ a0 a1).bind fun q4 => (s145 μ q4 12).bind fun q6 => s228_11 μ a0 a1 q6) else none
set_option maxRecDepth 20000 in
theorem t228 {μ : mM} {a0 : Nat} {a1 : Int32} {o : Int32} (hr : s228 μ a0 a1 = some o) : mEv mG 228 [.ref a0, .int a1] μ (some (.int o)) (μ) := by
  obtain ⟨r, hC⟩ : ∃ r : Option Value × mM, r = (some (.int o), μ) := ⟨_, rfl⟩
  show mGo mG (228, List.drop 0 mC228, [.ref a0, .int a1], [], μ) (some (.int o), μ)
  rw [← hC]
  unfold s228 at hr
  refine mGo.steps 2 (c' := (228, List.drop 2 mC228, [.ref a0, .int a1], [.int a1, .ref a0], μ)) rfl ?_
  obtain ⟨h1, hr⟩ := mIf hr
  obtain ⟨q2, h3, hr⟩ := mBi hr
  refine gCall (z := 150) (n := 1) (f := 0) (kind := 1) (a := a0) (As := [.int a1]) (y := 228) (is := List.drop 3 mC228) (L := [.ref a0, .int a1]) (rest := []) (μ := μ) rfl (by decide) (by decide) ⟨rfl, rfl⟩ rfl h1 (Nat.le_of_ble_eq_true rfl) (Nat.le_of_ble_eq_true rfl) (t150 h3) ?_
  rcases mIte hr with ⟨h8, hr⟩ | ⟨h8, hr⟩
  · refine gBrT (p := q2 = 0) (y := 228) (is := List.drop 4 mC228) (L := [.ref a0, .int a1]) (st := []) (μ := μ) (t := 21) rfl h8 ?_
    refine mGo.steps 1 (c' := (228, List.drop 11 mC228, [.ref a0, .int a1], [.int (-1)], μ)) rfl ?_
    exact t228_11 μ a0 a1 (-1) (.ref a0) rfl (.int a1) rfl hr hC
  · refine gBrF (p := q2 = 0) (y := 228) (is := List.drop 4 mC228) (L := [.ref a0, .int a1]) (st := []) (μ := μ) (t := 21) rfl h8 ?_
    refine mGo.steps 2 (c' := (228, List.drop 6 mC228, [.ref a0, .int a1], [.int a1, .ref a0], μ)) rfl ?_
    obtain ⟨q4, h5, hr⟩ := mBi hr
    refine gCall (z := 169) (n := 1) (f := 0) (kind := 1) (a := a0) (As := [.int a1]) (y := 228) (is := List.drop 7 mC228) (L := [.ref a0, .int a1]) (rest := []) (μ := μ) rfl (by decide) (by decide) ⟨rfl, rfl⟩ rfl h1 (Nat.le_of_ble_eq_true rfl) (Nat.le_of_ble_eq_true rfl) (t169 h5) ?_
    refine mGo.steps 1 (c' := (228, List.drop 8 mC228, [.ref a0, .int a1], [.int 12, .int q4], μ)) rfl ?_
    obtain ⟨q6, h7, hr⟩ := mBi hr
    refine mGo.call (z := 145) (as := [.int q4, .int 12]) (y := 228) (is := List.drop 9 mC228) (L := [.ref a0, .int a1]) (st := []) (μ := μ) rfl (t145 h7) ?_
    refine mGo.steps 1 (c' := (228, List.drop 11 mC228, [.ref a0, .int a1], [.int q6], μ)) rfl ?_
    exact t228_11 μ a0 a1 q6 (.ref a0) rfl (.int a1) rfl hr hC

/-! 229: TunnelFabricModel.bestPort(I)I -/
def s229L15L39_95 (μ : mM) (p0 : Nat) (p1 : Int32) (p5 : Int32) (p6 : Int32) (v2 : Int32) (v3 : Int32) (v4 : Int32) (v7 : Int32) : Option ((Int32 × Int32 × Int32 × Int32) ⊕ ((Int32 × Int32 × Int32) ⊕ Int32)) :=
  some (.inl (v2, v3, v4, v7 + 1))
set_option maxRecDepth 20000 in
theorem t229L15L39_95 (μ : mM) (p0 : Nat) (p1 : Int32) (p5 : Int32) (p6 : Int32) (v2 : Int32) (v3 : Int32) (v4 : Int32) (v7 : Int32) (w8 : Value) (hw8 : mNotL w8 = true) (w9 : Value) (hw9 : mNotL w9 = true) (w10 : Value) (hw10 : mNotL w10 = true) {o : ((Int32 × Int32 × Int32 × Int32) ⊕ ((Int32 × Int32 × Int32) ⊕ Int32))} {r : Option Value × mM} (hr : s229L15L39_95 μ p0 p1 p5 p6 v2 v3 v4 v7 = some o) (hC : Sum.elim (fun s' : Int32 × Int32 × Int32 × Int32 => ∀ (w8 : Value) (hw8 : mNotL w8 = true) (w9 : Value) (hw9 : mNotL w9 = true) (w10 : Value) (hw10 : mNotL w10 = true), mGo mG (229, List.drop 39 mC229, [.ref p0, .int p1, .int s'.1, .int s'.2.1, .int s'.2.2.1, .int p5, .int p6, .int s'.2.2.2, w8, w9, w10], [], μ) r) (Sum.elim (fun x : Int32 × Int32 × Int32 => ∀ (w6 : Value) (hw6 : mNotL w6 = true) (w7 : Value) (hw7 : mNotL w7 = true) (w8 : Value) (hw8 : mNotL w8 = true) (w9 : Value) (hw9 : mNotL w9 = true) (w10 : Value) (hw10 : mNotL w10 = true), mGo mG (229, List.drop 97 mC229, [.ref p0, .int p1, .int x.1, .int x.2.1, .int x.2.2, .int p5, w6, w7, w8, w9, w10], [], μ) r) (fun y : Int32 => r = (some (.int y), μ))) o) : mGo mG (229, List.drop 95 mC229, [.ref p0, .int p1, .int v2, .int v3, .int v4, .int p5, .int p6, .int v7, w8, w9, w10], [], μ) r := by
  unfold s229L15L39_95 at hr
  refine mGo.steps 2 (c' := (229, List.drop 39 mC229, [.ref p0, .int p1, .int v2, .int v3, .int v4, .int p5, .int p6, .int (v7 + 1), w8, w9, w10], [], μ)) rfl ?_
  obtain rfl := Option.some.inj hr
  exact hC w8 hw8 w9 hw9 w10 hw10
def s229L15L39_74 (μ : mM) (p0 : Nat) (p1 : Int32) (p5 : Int32) (p6 : Int32) (v2 : Int32) (v3 : Int32) (v4 : Int32) (v7 : Int32) (v9 : Int32) (t0 : Int32) : Option ((Int32 × Int32 × Int32 × Int32) ⊕ ((Int32 × Int32 × Int32) ⊕ Int32)) :=
  if (mS μ p0).1 = 9 then (s182 μ p0 p5 v7).bind fun q18 => if ¬ q18 = (-10) then (s229L15L39_95 μ p0 p1 p5 p6 v2 v3 v4 v7) else (if t0 = 0 then (s229L15L39_95 μ p0 p1 p5 p6 v2 v3 v4 v7) else ((s152 μ p0 p5).bind fun q20 => s229L15L39_95 μ p0 p1 p5 p6 ((8 * p5) + v7) v9 q20 v7)) else none
set_option maxRecDepth 20000 in
theorem t229L15L39_74 (μ : mM) (p0 : Nat) (p1 : Int32) (p5 : Int32) (p6 : Int32) (v2 : Int32) (v3 : Int32) (v4 : Int32) (v7 : Int32) (v9 : Int32) (t0 : Int32) (w8 : Value) (hw8 : mNotL w8 = true) (w10 : Value) (hw10 : mNotL w10 = true) {o : ((Int32 × Int32 × Int32 × Int32) ⊕ ((Int32 × Int32 × Int32) ⊕ Int32))} {r : Option Value × mM} (hr : s229L15L39_74 μ p0 p1 p5 p6 v2 v3 v4 v7 v9 t0 = some o) (hC : Sum.elim (fun s' : Int32 × Int32 × Int32 × Int32 => ∀ (w8 : Value) (hw8 : mNotL w8 = true) (w9 : Value) (hw9 : mNotL w9 = true) (w10 : Value) (hw10 : mNotL w10 = true), mGo mG (229, List.drop 39 mC229, [.ref p0, .int p1, .int s'.1, .int s'.2.1, .int s'.2.2.1, .int p5, .int p6, .int s'.2.2.2, w8, w9, w10], [], μ) r) (Sum.elim (fun x : Int32 × Int32 × Int32 => ∀ (w6 : Value) (hw6 : mNotL w6 = true) (w7 : Value) (hw7 : mNotL w7 = true) (w8 : Value) (hw8 : mNotL w8 = true) (w9 : Value) (hw9 : mNotL w9 = true) (w10 : Value) (hw10 : mNotL w10 = true), mGo mG (229, List.drop 97 mC229, [.ref p0, .int p1, .int x.1, .int x.2.1, .int x.2.2, .int p5, w6, w7, w8, w9, w10], [], μ) r) (fun y : Int32 => r = (some (.int y), μ))) o) : mGo mG (229, List.drop 74 mC229, [.ref p0, .int p1, .int v2, .int v3, .int v4, .int p5, .int p6, .int v7, w8, .int v9, w10], [.int t0], μ) r := by
  unfold s229L15L39_74 at hr
  refine mGo.steps 4 (c' := (229, List.drop 78 mC229, [.ref p0, .int p1, .int v2, .int v3, .int v4, .int p5, .int p6, .int v7, w8, .int v9, .int t0], [.int v7, .int p5, .ref p0], μ)) rfl ?_
  obtain ⟨h17, hr⟩ := mIf hr
  obtain ⟨q18, h19, hr⟩ := mBi hr
  refine gCall (z := 182) (n := 2) (f := 0) (kind := 1) (a := p0) (As := [.int p5, .int v7]) (y := 229) (is := List.drop 79 mC229) (L := [.ref p0, .int p1, .int v2, .int v3, .int v4, .int p5, .int p6, .int v7, w8, .int v9, .int t0]) (rest := []) (μ := μ) rfl (by decide) (by decide) ⟨rfl, rfl⟩ rfl h17 (Nat.le_of_ble_eq_true rfl) (Nat.le_of_ble_eq_true rfl) (t182 h19) ?_
  refine mGo.steps 1 (c' := (229, List.drop 80 mC229, [.ref p0, .int p1, .int v2, .int v3, .int v4, .int p5, .int p6, .int v7, w8, .int v9, .int t0], [.int (-10), .int q18], μ)) rfl ?_
  rcases mIte hr with ⟨h23, hr⟩ | ⟨h23, hr⟩
  · refine gBrT (p := ¬ q18 = (-10)) (y := 229) (is := List.drop 81 mC229) (L := [.ref p0, .int p1, .int v2, .int v3, .int v4, .int p5, .int p6, .int v7, w8, .int v9, .int t0]) (st := []) (μ := μ) (t := 177) rfl h23 ?_
    exact t229L15L39_95 μ p0 p1 p5 p6 v2 v3 v4 v7 w8 hw8 (.int v9) rfl (.int t0) rfl hr hC
  · refine gBrF (p := ¬ q18 = (-10)) (y := 229) (is := List.drop 81 mC229) (L := [.ref p0, .int p1, .int v2, .int v3, .int v4, .int p5, .int p6, .int v7, w8, .int v9, .int t0]) (st := []) (μ := μ) (t := 177) rfl h23 ?_
    refine mGo.steps 1 (c' := (229, List.drop 82 mC229, [.ref p0, .int p1, .int v2, .int v3, .int v4, .int p5, .int p6, .int v7, w8, .int v9, .int t0], [.int t0], μ)) rfl ?_
    rcases mIte hr with ⟨h22, hr⟩ | ⟨h22, hr⟩
    · refine gBrT (p := t0 = 0) (y := 229) (is := List.drop 83 mC229) (L := [.ref p0, .int p1, .int v2, .int v3, .int v4, .int p5, .int p6, .int v7, w8, .int v9, .int t0]) (st := []) (μ := μ) (t := 177) rfl h22 ?_
      exact t229L15L39_95 μ p0 p1 p5 p6 v2 v3 v4 v7 w8 hw8 (.int v9) rfl (.int t0) rfl hr hC
    · refine gBrF (p := t0 = 0) (y := 229) (is := List.drop 83 mC229) (L := [.ref p0, .int p1, .int v2, .int v3, .int v4, .int p5, .int p6, .int v7, w8, .int v9, .int t0]) (st := []) (μ := μ) (t := 177) rfl h22 ?_
      refine mGo.steps 10 (c' := (229, List.drop 93 mC229, [.ref p0, .int p1, .int ((8 * p5) + v7), .int v9, .int v4, .int p5, .int p6, .int v7, w8, .int v9, .int t0], [.int p5, .ref p0], μ)) rfl ?_
      obtain ⟨q20, h21, hr⟩ := mBi hr
      refine gCall (z := 152) (n := 1) (f := 0) (kind := 1) (a := p0) (As := [.int p5]) (y := 229) (is := List.drop 94 mC229) (L := [.ref p0, .int p1, .int ((8 * p5) + v7), .int v9, .int v4, .int p5, .int p6, .int v7, w8, .int v9, .int t0]) (rest := []) (μ := μ) rfl (by decide) (by decide) ⟨rfl, rfl⟩ rfl h17 (Nat.le_of_ble_eq_true rfl) (Nat.le_of_ble_eq_true rfl) (t152 h21) ?_
      refine mGo.steps 1 (c' := (229, List.drop 95 mC229, [.ref p0, .int p1, .int ((8 * p5) + v7), .int v9, .int q20, .int p5, .int p6, .int v7, w8, .int v9, .int t0], [], μ)) rfl ?_
      exact t229L15L39_95 μ p0 p1 p5 p6 ((8 * p5) + v7) v9 q20 v7 w8 hw8 (.int v9) rfl (.int t0) rfl hr hC
def s229L15L39_71 (μ : mM) (p0 : Nat) (p1 : Int32) (p5 : Int32) (p6 : Int32) (v2 : Int32) (v3 : Int32) (v4 : Int32) (v7 : Int32) (v9 : Int32) : Option ((Int32 × Int32 × Int32 × Int32) ⊕ ((Int32 × Int32 × Int32) ⊕ Int32)) :=
  s229L15L39_74 μ p0 p1 p5 p6 v2 v3 v4 v7 v9 1
set_option maxRecDepth 20000 in
theorem t229L15L39_71 (μ : mM) (p0 : Nat) (p1 : Int32) (p5 : Int32) (p6 : Int32) (v2 : Int32) (v3 : Int32) (v4 : Int32) (v7 : Int32) (v9 : Int32) (w8 : Value) (hw8 : mNotL w8 = true) (w10 : Value) (hw10 : mNotL w10 = true) {o : ((Int32 × Int32 × Int32 × Int32) ⊕ ((Int32 × Int32 × Int32) ⊕ Int32))} {r : Option Value × mM} (hr : s229L15L39_71 μ p0 p1 p5 p6 v2 v3 v4 v7 v9 = some o) (hC : Sum.elim (fun s' : Int32 × Int32 × Int32 × Int32 => ∀ (w8 : Value) (hw8 : mNotL w8 = true) (w9 : Value) (hw9 : mNotL w9 = true) (w10 : Value) (hw10 : mNotL w10 = true), mGo mG (229, List.drop 39 mC229, [.ref p0, .int p1, .int s'.1, .int s'.2.1, .int s'.2.2.1, .int p5, .int p6, .int s'.2.2.2, w8, w9, w10], [], μ) r) (Sum.elim (fun x : Int32 × Int32 × Int32 => ∀ (w6 : Value) (hw6 : mNotL w6 = true) (w7 : Value) (hw7 : mNotL w7 = true) (w8 : Value) (hw8 : mNotL w8 = true) (w9 : Value) (hw9 : mNotL w9 = true) (w10 : Value) (hw10 : mNotL w10 = true), mGo mG (229, List.drop 97 mC229, [.ref p0, .int p1, .int x.1, .int x.2.1, .int x.2.2, .int p5, w6, w7, w8, w9, w10], [], μ) r) (fun y : Int32 => r = (some (.int y), μ))) o) : mGo mG (229, List.drop 71 mC229, [.ref p0, .int p1, .int v2, .int v3, .int v4, .int p5, .int p6, .int v7, w8, .int v9, w10], [], μ) r := by
  unfold s229L15L39_71 at hr
  refine mGo.steps 2 (c' := (229, List.drop 74 mC229, [.ref p0, .int p1, .int v2, .int v3, .int v4, .int p5, .int p6, .int v7, w8, .int v9, w10], [.int 1], μ)) rfl ?_
  exact t229L15L39_74 μ p0 p1 p5 p6 v2 v3 v4 v7 v9 1 w8 hw8 w10 hw10 hr hC
def s229L15L39_73 (μ : mM) (p0 : Nat) (p1 : Int32) (p5 : Int32) (p6 : Int32) (v2 : Int32) (v3 : Int32) (v4 : Int32) (v7 : Int32) (v9 : Int32) : Option ((Int32 × Int32 × Int32 × Int32) ⊕ ((Int32 × Int32 × Int32) ⊕ Int32)) :=
  s229L15L39_74 μ p0 p1 p5 p6 v2 v3 v4 v7 v9 0
set_option maxRecDepth 20000 in
theorem t229L15L39_73 (μ : mM) (p0 : Nat) (p1 : Int32) (p5 : Int32) (p6 : Int32) (v2 : Int32) (v3 : Int32) (v4 : Int32) (v7 : Int32) (v9 : Int32) (w8 : Value) (hw8 : mNotL w8 = true) (w10 : Value) (hw10 : mNotL w10 = true) {o : ((Int32 × Int32 × Int32 × Int32) ⊕ ((Int32 × Int32 × Int32) ⊕ Int32))} {r : Option Value × mM} (hr : s229L15L39_73 μ p0 p1 p5 p6 v2 v3 v4 v7 v9 = some o) (hC : Sum.elim (fun s' : Int32 × Int32 × Int32 × Int32 => ∀ (w8 : Value) (hw8 : mNotL w8 = true) (w9 : Value) (hw9 : mNotL w9 = true) (w10 : Value) (hw10 : mNotL w10 = true), mGo mG (229, List.drop 39 mC229, [.ref p0, .int p1, .int s'.1, .int s'.2.1, .int s'.2.2.1, .int p5, .int p6, .int s'.2.2.2, w8, w9, w10], [], μ) r) (Sum.elim (fun x : Int32 × Int32 × Int32 => ∀ (w6 : Value) (hw6 : mNotL w6 = true) (w7 : Value) (hw7 : mNotL w7 = true) (w8 : Value) (hw8 : mNotL w8 = true) (w9 : Value) (hw9 : mNotL w9 = true) (w10 : Value) (hw10 : mNotL w10 = true), mGo mG (229, List.drop 97 mC229, [.ref p0, .int p1, .int x.1, .int x.2.1, .int x.2.2, .int p5, w6, w7, w8, w9, w10], [], μ) r) (fun y : Int32 => r = (some (.int y), μ))) o) : mGo mG (229, List.drop 73 mC229, [.ref p0, .int p1, .int v2, .int v3, .int v4, .int p5, .int p6, .int v7, w8, .int v9, w10], [], μ) r := by
  unfold s229L15L39_73 at hr
  refine mGo.steps 1 (c' := (229, List.drop 74 mC229, [.ref p0, .int p1, .int v2, .int v3, .int v4, .int p5, .int p6, .int v7, w8, .int v9, w10], [.int 0], μ)) rfl ?_
  exact t229L15L39_74 μ p0 p1 p5 p6 v2 v3 v4 v7 v9 0 w8 hw8 w10 hw10 hr hC
def s229L15L39 (μ : mM) (p0 : Nat) (p1 : Int32) (p5 : Int32) (p6 : Int32) (s : Int32 × Int32 × Int32 × Int32) : Option ((Int32 × Int32 × Int32 × Int32) ⊕ ((Int32 × Int32 × Int32) ⊕ Int32)) :=
  if p6 ≤ s.2.2.2 then (some (.inr (.inl (s.1, s.2.1, s.2.2.1)))) else (if (mS μ p0).1 = 9 then (s148 μ p0 p5 2).bind fun q7 => (s145 μ p1 q7).bind fun q9 => (s155 μ q9).bind fun q11 => (s169 μ p0 p5).bind fun q13 => (s145 μ q13 ((2 * q11) - 1)).bind fun q15 => if s.2.1 < q15 then (s229L15L39_71 μ p0 p1 p5 p6 s.1 s.2.1 s.2.2.1 s.2.2.2 q15) else (if ¬ q15 = s.2.1 then (s229L15L39_73 μ p0 p1 p5 p6 s.1 s.2.1 s.2.2.1 s.2.2.2 q15) else ((s152 μ p0 p5).bind fun q24 => if s.2.2.1 ≤ q24 then (s229L15L39_73 μ p0 p1 p5 p6 s.1 s.2.1 s.2.2.1 s.2.2.2 q15) else (s229L15L39_71 μ p0 p1 p5 p6 s.1 s.2.1 s.2.2.1 s.2.2.2 q15))) else none)
set_option maxRecDepth 20000 in
theorem t229L15L39 (μ : mM) (p0 : Nat) (p1 : Int32) (p5 : Int32) (p6 : Int32) {r : Option Value × mM} (s : Int32 × Int32 × Int32 × Int32) (o : ((Int32 × Int32 × Int32 × Int32) ⊕ ((Int32 × Int32 × Int32) ⊕ Int32))) (hr : s229L15L39 μ p0 p1 p5 p6 s = some o) (hC : Sum.elim (fun s' : Int32 × Int32 × Int32 × Int32 => ∀ (w8 : Value) (hw8 : mNotL w8 = true) (w9 : Value) (hw9 : mNotL w9 = true) (w10 : Value) (hw10 : mNotL w10 = true), mGo mG (229, List.drop 39 mC229, [.ref p0, .int p1, .int s'.1, .int s'.2.1, .int s'.2.2.1, .int p5, .int p6, .int s'.2.2.2, w8, w9, w10], [], μ) r) (Sum.elim (fun x : Int32 × Int32 × Int32 => ∀ (w6 : Value) (hw6 : mNotL w6 = true) (w7 : Value) (hw7 : mNotL w7 = true) (w8 : Value) (hw8 : mNotL w8 = true) (w9 : Value) (hw9 : mNotL w9 = true) (w10 : Value) (hw10 : mNotL w10 = true), mGo mG (229, List.drop 97 mC229, [.ref p0, .int p1, .int x.1, .int x.2.1, .int x.2.2, .int p5, w6, w7, w8, w9, w10], [], μ) r) (fun y : Int32 => r = (some (.int y), μ))) o) : ∀ (w8 : Value) (hw8 : mNotL w8 = true) (w9 : Value) (hw9 : mNotL w9 = true) (w10 : Value) (hw10 : mNotL w10 = true), mGo mG (229, List.drop 39 mC229, [.ref p0, .int p1, .int s.1, .int s.2.1, .int s.2.2.1, .int p5, .int p6, .int s.2.2.2, w8, w9, w10], [], μ) r := by
  intro w8 hw8 w9 hw9 w10 hw10
  unfold s229L15L39 at hr
  refine mGo.steps 2 (c' := (229, List.drop 41 mC229, [.ref p0, .int p1, .int s.1, .int s.2.1, .int s.2.2.1, .int p5, .int p6, .int s.2.2.2, w8, w9, w10], [.int p6, .int s.2.2.2], μ)) rfl ?_
  rcases mIte hr with ⟨h29, hr⟩ | ⟨h29, hr⟩
  · refine gBrT (p := p6 ≤ s.2.2.2) (y := 229) (is := List.drop 42 mC229) (L := [.ref p0, .int p1, .int s.1, .int s.2.1, .int s.2.2.1, .int p5, .int p6, .int s.2.2.2, w8, w9, w10]) (st := []) (μ := μ) (t := 183) rfl h29 ?_
    obtain rfl := Option.some.inj hr
    exact hC (.int p6) rfl (.int s.2.2.2) rfl w8 hw8 w9 hw9 w10 hw10
  · refine gBrF (p := p6 ≤ s.2.2.2) (y := 229) (is := List.drop 42 mC229) (L := [.ref p0, .int p1, .int s.1, .int s.2.1, .int s.2.2.1, .int p5, .int p6, .int s.2.2.2, w8, w9, w10]) (st := []) (μ := μ) (t := 183) rfl h29 ?_
    refine mGo.steps 5 (c' := (229, List.drop 47 mC229, [.ref p0, .int p1, .int s.1, .int s.2.1, .int s.2.2.1, .int p5, .int p6, .int s.2.2.2, w8, w9, w10], [.int 2, .int p5, .ref p0, .int p1, .int 2], μ)) rfl ?_
    obtain ⟨h6, hr⟩ := mIf hr
    obtain ⟨q7, h8, hr⟩ := mBi hr
    refine gCall (z := 148) (n := 2) (f := 0) (kind := 1) (a := p0) (As := [.int p5, .int 2]) (y := 229) (is := List.drop 48 mC229) (L := [.ref p0, .int p1, .int s.1, .int s.2.1, .int s.2.2.1, .int p5, .int p6, .int s.2.2.2, w8, w9, w10]) (rest := [.int p1, .int 2]) (μ := μ) rfl (by decide) (by decide) ⟨rfl, rfl⟩ rfl h6 (Nat.le_of_ble_eq_true rfl) (Nat.le_of_ble_eq_true rfl) (t148 h8) ?_
    obtain ⟨q9, h10, hr⟩ := mBi hr
    refine mGo.call (z := 145) (as := [.int p1, .int q7]) (y := 229) (is := List.drop 49 mC229) (L := [.ref p0, .int p1, .int s.1, .int s.2.1, .int s.2.2.1, .int p5, .int p6, .int s.2.2.2, w8, w9, w10]) (st := [.int 2]) (μ := μ) rfl (t145 h10) ?_
    obtain ⟨q11, h12, hr⟩ := mBi hr
    refine mGo.call (z := 155) (as := [.int q9]) (y := 229) (is := List.drop 50 mC229) (L := [.ref p0, .int p1, .int s.1, .int s.2.1, .int s.2.2.1, .int p5, .int p6, .int s.2.2.2, w8, w9, w10]) (st := [.int 2]) (μ := μ) rfl (t155 h12) ?_
    refine mGo.steps 6 (c' := (229, List.drop 56 mC229, [.ref p0, .int p1, .int s.1, .int s.2.1, .int s.2.2.1, .int p5, .int p6, .int s.2.2.2, .int ((2 * q11) - 1), w9, w10], [.int p5, .ref p0], μ)) rfl ?_
    obtain ⟨q13, h14, hr⟩ := mBi hr
    refine gCall (z := 169) (n := 1) (f := 0) (kind := 1) (a := p0) (As := [.int p5]) (y := 229) (is := List.drop 57 mC229) (L := [.ref p0, .int p1, .int s.1, .int s.2.1, .int s.2.2.1, .int p5, .int p6, .int s.2.2.2, .int ((2 * q11) - 1), w9, w10]) (rest := []) (μ := μ) rfl (by decide) (by decide) ⟨rfl, rfl⟩ rfl h6 (Nat.le_of_ble_eq_true rfl) (Nat.le_of_ble_eq_true rfl) (t169 h14) ?_
    refine mGo.steps 1 (c' := (229, List.drop 58 mC229, [.ref p0, .int p1, .int s.1, .int s.2.1, .int s.2.2.1, .int p5, .int p6, .int s.2.2.2, .int ((2 * q11) - 1), w9, w10], [.int ((2 * q11) - 1), .int q13], μ)) rfl ?_
    obtain ⟨q15, h16, hr⟩ := mBi hr
    refine mGo.call (z := 145) (as := [.int q13, .int ((2 * q11) - 1)]) (y := 229) (is := List.drop 59 mC229) (L := [.ref p0, .int p1, .int s.1, .int s.2.1, .int s.2.2.1, .int p5, .int p6, .int s.2.2.2, .int ((2 * q11) - 1), w9, w10]) (st := []) (μ := μ) rfl (t145 h16) ?_
    refine mGo.steps 3 (c' := (229, List.drop 62 mC229, [.ref p0, .int p1, .int s.1, .int s.2.1, .int s.2.2.1, .int p5, .int p6, .int s.2.2.2, .int ((2 * q11) - 1), .int q15, w10], [.int s.2.1, .int q15], μ)) rfl ?_
    rcases mIte hr with ⟨h28, hr⟩ | ⟨h28, hr⟩
    · refine gBrT (p := s.2.1 < q15) (y := 229) (is := List.drop 63 mC229) (L := [.ref p0, .int p1, .int s.1, .int s.2.1, .int s.2.2.1, .int p5, .int p6, .int s.2.2.2, .int ((2 * q11) - 1), .int q15, w10]) (st := []) (μ := μ) (t := 132) rfl h28 ?_
      exact t229L15L39_71 μ p0 p1 p5 p6 s.1 s.2.1 s.2.2.1 s.2.2.2 q15 (.int ((2 * q11) - 1)) rfl w10 hw10 hr hC
    · refine gBrF (p := s.2.1 < q15) (y := 229) (is := List.drop 63 mC229) (L := [.ref p0, .int p1, .int s.1, .int s.2.1, .int s.2.2.1, .int p5, .int p6, .int s.2.2.2, .int ((2 * q11) - 1), .int q15, w10]) (st := []) (μ := μ) (t := 132) rfl h28 ?_
      refine mGo.steps 2 (c' := (229, List.drop 65 mC229, [.ref p0, .int p1, .int s.1, .int s.2.1, .int s.2.2.1, .int p5, .int p6, .int s.2.2.2, .int ((2 * q11) - 1), .int q15, w10], [.int s.2.1, .int q15], μ)) rfl ?_
      rcases mIte hr with ⟨h27, hr⟩ | ⟨h27, hr⟩
      · refine gBrT (p := ¬ q15 = s.2.1) (y := 229) (is := List.drop 66 mC229) (L := [.ref p0, .int p1, .int s.1, .int s.2.1, .int s.2.2.1, .int p5, .int p6, .int s.2.2.2, .int ((2 * q11) - 1), .int q15, w10]) (st := []) (μ := μ) (t := 136) rfl h27 ?_
        exact t229L15L39_73 μ p0 p1 p5 p6 s.1 s.2.1 s.2.2.1 s.2.2.2 q15 (.int ((2 * q11) - 1)) rfl w10 hw10 hr hC
      · refine gBrF (p := ¬ q15 = s.2.1) (y := 229) (is := List.drop 66 mC229) (L := [.ref p0, .int p1, .int s.1, .int s.2.1, .int s.2.2.1, .int p5, .int p6, .int s.2.2.2, .int ((2 * q11) - 1), .int q15, w10]) (st := []) (μ := μ) (t := 136) rfl h27 ?_
        refine mGo.steps 2 (c' := (229, List.drop 68 mC229, [.ref p0, .int p1, .int s.1, .int s.2.1, .int s.2.2.1, .int p5, .int p6, .int s.2.2.2, .int ((2 * q11) - 1), .int q15, w10], [.int p5, .ref p0], μ)) rfl ?_
        obtain ⟨q24, h25, hr⟩ := mBi hr
        refine gCall (z := 152) (n := 1) (f := 0) (kind := 1) (a := p0) (As := [.int p5]) (y := 229) (is := List.drop 69 mC229) (L := [.ref p0, .int p1, .int s.1, .int s.2.1, .int s.2.2.1, .int p5, .int p6, .int s.2.2.2, .int ((2 * q11) - 1), .int q15, w10]) (rest := []) (μ := μ) rfl (by decide) (by decide) ⟨rfl, rfl⟩ rfl h6 (Nat.le_of_ble_eq_true rfl) (Nat.le_of_ble_eq_true rfl) (t152 h25) ?_
        refine mGo.steps 1 (c' := (229, List.drop 70 mC229, [.ref p0, .int p1, .int s.1, .int s.2.1, .int s.2.2.1, .int p5, .int p6, .int s.2.2.2, .int ((2 * q11) - 1), .int q15, w10], [.int s.2.2.1, .int q24], μ)) rfl ?_
        rcases mIte hr with ⟨h26, hr⟩ | ⟨h26, hr⟩
        · refine gBrT (p := s.2.2.1 ≤ q24) (y := 229) (is := List.drop 71 mC229) (L := [.ref p0, .int p1, .int s.1, .int s.2.1, .int s.2.2.1, .int p5, .int p6, .int s.2.2.2, .int ((2 * q11) - 1), .int q15, w10]) (st := []) (μ := μ) (t := 136) rfl h26 ?_
          exact t229L15L39_73 μ p0 p1 p5 p6 s.1 s.2.1 s.2.2.1 s.2.2.2 q15 (.int ((2 * q11) - 1)) rfl w10 hw10 hr hC
        · refine gBrF (p := s.2.2.1 ≤ q24) (y := 229) (is := List.drop 71 mC229) (L := [.ref p0, .int p1, .int s.1, .int s.2.1, .int s.2.2.1, .int p5, .int p6, .int s.2.2.2, .int ((2 * q11) - 1), .int q15, w10]) (st := []) (μ := μ) (t := 136) rfl h26 ?_
          exact t229L15L39_71 μ p0 p1 p5 p6 s.1 s.2.1 s.2.2.1 s.2.2.2 q15 (.int ((2 * q11) - 1)) rfl w10 hw10 hr hC
theorem t229L15L39l (μ : mM) (p0 : Nat) (p1 : Int32) (p5 : Int32) (p6 : Int32) {r : Option Value × mM} (n : Nat) (s : Int32 × Int32 × Int32 × Int32) (o : (Int32 × Int32 × Int32) ⊕ Int32) (hr : mLoop (s229L15L39 μ p0 p1 p5 p6) n s = some o) (hC : Sum.elim (fun x : Int32 × Int32 × Int32 => ∀ (w6 : Value) (hw6 : mNotL w6 = true) (w7 : Value) (hw7 : mNotL w7 = true) (w8 : Value) (hw8 : mNotL w8 = true) (w9 : Value) (hw9 : mNotL w9 = true) (w10 : Value) (hw10 : mNotL w10 = true), mGo mG (229, List.drop 97 mC229, [.ref p0, .int p1, .int x.1, .int x.2.1, .int x.2.2, .int p5, w6, w7, w8, w9, w10], [], μ) r) (fun y : Int32 => r = (some (.int y), μ)) o) : ∀ (w8 : Value) (hw8 : mNotL w8 = true) (w9 : Value) (hw9 : mNotL w9 = true) (w10 : Value) (hw10 : mNotL w10 = true), mGo mG (229, List.drop 39 mC229, [.ref p0, .int p1, .int s.1, .int s.2.1, .int s.2.2.1, .int p5, .int p6, .int s.2.2.2, w8, w9, w10], [], μ) r :=
  mLoop_go (Hd := (fun s' : Int32 × Int32 × Int32 × Int32 => ∀ (w8 : Value) (hw8 : mNotL w8 = true) (w9 : Value) (hw9 : mNotL w9 = true) (w10 : Value) (hw10 : mNotL w10 = true), mGo mG (229, List.drop 39 mC229, [.ref p0, .int p1, .int s'.1, .int s'.2.1, .int s'.2.2.1, .int p5, .int p6, .int s'.2.2.2, w8, w9, w10], [], μ) r)) (fun s o hb hC => t229L15L39 μ p0 p1 p5 p6 s o hb hC) n s o hr hC
def s229L15_36 (μ : mM) (p0 : Nat) (p1 : Int32) (v2 : Int32) (v3 : Int32) (v4 : Int32) (v5 : Int32) (t0 : Int32) : Option ((Int32 × Int32 × Int32 × Int32) ⊕ ((Int32) ⊕ Int32)) :=
  (mLoop (s229L15L39 μ p0 p1 v5 t0) 1000 (v2, v3, v4, 0)).bind fun o30 => Sum.elim (fun x31 => some (.inl (x31.1, x31.2.1, x31.2.2, v5 + 1))) (fun y32 => some (.inr (.inr y32))) o30
set_option maxRecDepth 20000 in
theorem t229L15_36 (μ : mM) (p0 : Nat) (p1 : Int32) (v2 : Int32) (v3 : Int32) (v4 : Int32) (v5 : Int32) (t0 : Int32) (w6 : Value) (hw6 : mNotL w6 = true) (w7 : Value) (hw7 : mNotL w7 = true) (w8 : Value) (hw8 : mNotL w8 = true) (w9 : Value) (hw9 : mNotL w9 = true) (w10 : Value) (hw10 : mNotL w10 = true) {o : ((Int32 × Int32 × Int32 × Int32) ⊕ ((Int32) ⊕ Int32))} {r : Option Value × mM} (hr : s229L15_36 μ p0 p1 v2 v3 v4 v5 t0 = some o) (hC : Sum.elim (fun s' : Int32 × Int32 × Int32 × Int32 => ∀ (w6 : Value) (hw6 : mNotL w6 = true) (w7 : Value) (hw7 : mNotL w7 = true) (w8 : Value) (hw8 : mNotL w8 = true) (w9 : Value) (hw9 : mNotL w9 = true) (w10 : Value) (hw10 : mNotL w10 = true), mGo mG (229, List.drop 15 mC229, [.ref p0, .int p1, .int s'.1, .int s'.2.1, .int s'.2.2.1, .int s'.2.2.2, w6, w7, w8, w9, w10], [], μ) r) (Sum.elim (fun x : Int32 => ∀ (w0 : Value) (hw0 : mNotL w0 = true) (w1 : Value) (hw1 : mNotL w1 = true) (w3 : Value) (hw3 : mNotL w3 = true) (w4 : Value) (hw4 : mNotL w4 = true) (w5 : Value) (hw5 : mNotL w5 = true) (w6 : Value) (hw6 : mNotL w6 = true) (w7 : Value) (hw7 : mNotL w7 = true) (w8 : Value) (hw8 : mNotL w8 = true) (w9 : Value) (hw9 : mNotL w9 = true) (w10 : Value) (hw10 : mNotL w10 = true), mGo mG (229, List.drop 99 mC229, [w0, w1, .int x, w3, w4, w5, w6, w7, w8, w9, w10], [], μ) r) (fun y : Int32 => r = (some (.int y), μ))) o) : mGo mG (229, List.drop 36 mC229, [.ref p0, .int p1, .int v2, .int v3, .int v4, .int v5, w6, w7, w8, w9, w10], [.int t0], μ) r := by
  unfold s229L15_36 at hr
  refine mGo.steps 3 (c' := (229, List.drop 39 mC229, [.ref p0, .int p1, .int v2, .int v3, .int v4, .int v5, .int t0, .int 0, w8, w9, w10], [], μ)) rfl ?_
  obtain ⟨o30, h33, hr⟩ := mBi hr
  refine t229L15L39l μ p0 p1 v5 t0 1000 (v2, v3, v4, 0) o30 h33 ?_ w8 hw8 w9 hw9 w10 hw10
  cases o30 with
  | inl x31 =>
    show ∀ (w6 : Value) (hw6 : mNotL w6 = true) (w7 : Value) (hw7 : mNotL w7 = true) (w8 : Value) (hw8 : mNotL w8 = true) (w9 : Value) (hw9 : mNotL w9 = true) (w10 : Value) (hw10 : mNotL w10 = true), mGo mG (229, List.drop 97 mC229, [.ref p0, .int p1, .int x31.1, .int x31.2.1, .int x31.2.2, .int v5, w6, w7, w8, w9, w10], [], μ) r
    intro w6 hw6 w7 hw7 w8 hw8 w9 hw9 w10 hw10
    replace hr : (_) = some _ := hr
    refine mGo.steps 2 (c' := (229, List.drop 15 mC229, [.ref p0, .int p1, .int x31.1, .int x31.2.1, .int x31.2.2, .int (v5 + 1), w6, w7, w8, w9, w10], [], μ)) rfl ?_
    obtain rfl := Option.some.inj hr
    exact hC w6 hw6 w7 hw7 w8 hw8 w9 hw9 w10 hw10
  | inr y32 =>
    obtain rfl := Option.some.inj hr
    exact hC
def s229L15_35 (μ : mM) (p0 : Nat) (p1 : Int32) (v2 : Int32) (v3 : Int32) (v4 : Int32) (v5 : Int32) : Option ((Int32 × Int32 × Int32 × Int32) ⊕ ((Int32) ⊕ Int32)) :=
  s229L15_36 μ p0 p1 v2 v3 v4 v5 0
set_option maxRecDepth 20000 in
theorem t229L15_35 (μ : mM) (p0 : Nat) (p1 : Int32) (v2 : Int32) (v3 : Int32) (v4 : Int32) (v5 : Int32) (w6 : Value) (hw6 : mNotL w6 = true) (w7 : Value) (hw7 : mNotL w7 = true) (w8 : Value) (hw8 : mNotL w8 = true) (w9 : Value) (hw9 : mNotL w9 = true) (w10 : Value) (hw10 : mNotL w10 = true) {o : ((Int32 × Int32 × Int32 × Int32) ⊕ ((Int32) ⊕ Int32))} {r : Option Value × mM} (hr : s229L15_35 μ p0 p1 v2 v3 v4 v5 = some o) (hC : Sum.elim (fun s' : Int32 × Int32 × Int32 × Int32 => ∀ (w6 : Value) (hw6 : mNotL w6 = true) (w7 : Value) (hw7 : mNotL w7 = true) (w8 : Value) (hw8 : mNotL w8 = true) (w9 : Value) (hw9 : mNotL w9 = true) (w10 : Value) (hw10 : mNotL w10 = true), mGo mG (229, List.drop 15 mC229, [.ref p0, .int p1, .int s'.1, .int s'.2.1, .int s'.2.2.1, .int s'.2.2.2, w6, w7, w8, w9, w10], [], μ) r) (Sum.elim (fun x : Int32 => ∀ (w0 : Value) (hw0 : mNotL w0 = true) (w1 : Value) (hw1 : mNotL w1 = true) (w3 : Value) (hw3 : mNotL w3 = true) (w4 : Value) (hw4 : mNotL w4 = true) (w5 : Value) (hw5 : mNotL w5 = true) (w6 : Value) (hw6 : mNotL w6 = true) (w7 : Value) (hw7 : mNotL w7 = true) (w8 : Value) (hw8 : mNotL w8 = true) (w9 : Value) (hw9 : mNotL w9 = true) (w10 : Value) (hw10 : mNotL w10 = true), mGo mG (229, List.drop 99 mC229, [w0, w1, .int x, w3, w4, w5, w6, w7, w8, w9, w10], [], μ) r) (fun y : Int32 => r = (some (.int y), μ))) o) : mGo mG (229, List.drop 35 mC229, [.ref p0, .int p1, .int v2, .int v3, .int v4, .int v5, w6, w7, w8, w9, w10], [], μ) r := by
  unfold s229L15_35 at hr
  refine mGo.steps 1 (c' := (229, List.drop 36 mC229, [.ref p0, .int p1, .int v2, .int v3, .int v4, .int v5, w6, w7, w8, w9, w10], [.int 0], μ)) rfl ?_
  exact t229L15_36 μ p0 p1 v2 v3 v4 v5 0 w6 hw6 w7 hw7 w8 hw8 w9 hw9 w10 hw10 hr hC
def s229L15 (μ : mM) (p0 : Nat) (p1 : Int32) (s : Int32 × Int32 × Int32 × Int32) : Option ((Int32 × Int32 × Int32 × Int32) ⊕ ((Int32) ⊕ Int32)) :=
  if 8 ≤ s.2.2.2 then (some (.inr (.inl s.1))) else (if (mS μ p0).1 = 9 then (s148 μ p0 s.2.2.2 0).bind fun q4 => if ¬ q4 = 1 then (s229L15_35 μ p0 p1 s.1 s.2.1 s.2.2.1 s.2.2.2) else ((s152 μ p0 s.2.2.2).bind fun q34 => if 4 ≤ q34 then (s229L15_35 μ p0 p1 s.1 s.2.1 s.2.2.1 s.2.2.2) else ((s148 μ p0 s.2.2.2 1).bind fun q36 => (s146 μ q36).bind fun q38 => s229L15_36 μ p0 p1 s.1 s.2.1 s.2.2.1 s.2.2.2 q38)) else none)
set_option maxRecDepth 20000 in
theorem t229L15 (μ : mM) (p0 : Nat) (p1 : Int32) {r : Option Value × mM} (s : Int32 × Int32 × Int32 × Int32) (o : ((Int32 × Int32 × Int32 × Int32) ⊕ ((Int32) ⊕ Int32))) (hr : s229L15 μ p0 p1 s = some o) (hC : Sum.elim (fun s' : Int32 × Int32 × Int32 × Int32 => ∀ (w6 : Value) (hw6 : mNotL w6 = true) (w7 : Value) (hw7 : mNotL w7 = true) (w8 : Value) (hw8 : mNotL w8 = true) (w9 : Value) (hw9 : mNotL w9 = true) (w10 : Value) (hw10 : mNotL w10 = true), mGo mG (229, List.drop 15 mC229, [.ref p0, .int p1, .int s'.1, .int s'.2.1, .int s'.2.2.1, .int s'.2.2.2, w6, w7, w8, w9, w10], [], μ) r) (Sum.elim (fun x : Int32 => ∀ (w0 : Value) (hw0 : mNotL w0 = true) (w1 : Value) (hw1 : mNotL w1 = true) (w3 : Value) (hw3 : mNotL w3 = true) (w4 : Value) (hw4 : mNotL w4 = true) (w5 : Value) (hw5 : mNotL w5 = true) (w6 : Value) (hw6 : mNotL w6 = true) (w7 : Value) (hw7 : mNotL w7 = true) (w8 : Value) (hw8 : mNotL w8 = true) (w9 : Value) (hw9 : mNotL w9 = true) (w10 : Value) (hw10 : mNotL w10 = true), mGo mG (229, List.drop 99 mC229, [w0, w1, .int x, w3, w4, w5, w6, w7, w8, w9, w10], [], μ) r) (fun y : Int32 => r = (some (.int y), μ))) o) : ∀ (w6 : Value) (hw6 : mNotL w6 = true) (w7 : Value) (hw7 : mNotL w7 = true) (w8 : Value) (hw8 : mNotL w8 = true) (w9 : Value) (hw9 : mNotL w9 = true) (w10 : Value) (hw10 : mNotL w10 = true), mGo mG (229, List.drop 15 mC229, [.ref p0, .int p1, .int s.1, .int s.2.1, .int s.2.2.1, .int s.2.2.2, w6, w7, w8, w9, w10], [], μ) r := by
  intro w6 hw6 w7 hw7 w8 hw8 w9 hw9 w10 hw10
  unfold s229L15 at hr
  refine mGo.steps 2 (c' := (229, List.drop 17 mC229, [.ref p0, .int p1, .int s.1, .int s.2.1, .int s.2.2.1, .int s.2.2.2, w6, w7, w8, w9, w10], [.int 8, .int s.2.2.2], μ)) rfl ?_
  rcases mIte hr with ⟨h42, hr⟩ | ⟨h42, hr⟩
  · refine gBrT (p := 8 ≤ s.2.2.2) (y := 229) (is := List.drop 18 mC229) (L := [.ref p0, .int p1, .int s.1, .int s.2.1, .int s.2.2.1, .int s.2.2.2, w6, w7, w8, w9, w10]) (st := []) (μ := μ) (t := 189) rfl h42 ?_
    obtain rfl := Option.some.inj hr
    exact hC (.ref p0) rfl (.int p1) rfl (.int s.2.1) rfl (.int s.2.2.1) rfl (.int s.2.2.2) rfl w6 hw6 w7 hw7 w8 hw8 w9 hw9 w10 hw10
  · refine gBrF (p := 8 ≤ s.2.2.2) (y := 229) (is := List.drop 18 mC229) (L := [.ref p0, .int p1, .int s.1, .int s.2.1, .int s.2.2.1, .int s.2.2.2, w6, w7, w8, w9, w10]) (st := []) (μ := μ) (t := 189) rfl h42 ?_
    refine mGo.steps 3 (c' := (229, List.drop 21 mC229, [.ref p0, .int p1, .int s.1, .int s.2.1, .int s.2.2.1, .int s.2.2.2, w6, w7, w8, w9, w10], [.int 0, .int s.2.2.2, .ref p0], μ)) rfl ?_
    obtain ⟨h3, hr⟩ := mIf hr
    obtain ⟨q4, h5, hr⟩ := mBi hr
    refine gCall (z := 148) (n := 2) (f := 0) (kind := 1) (a := p0) (As := [.int s.2.2.2, .int 0]) (y := 229) (is := List.drop 22 mC229) (L := [.ref p0, .int p1, .int s.1, .int s.2.1, .int s.2.2.1, .int s.2.2.2, w6, w7, w8, w9, w10]) (rest := []) (μ := μ) rfl (by decide) (by decide) ⟨rfl, rfl⟩ rfl h3 (Nat.le_of_ble_eq_true rfl) (Nat.le_of_ble_eq_true rfl) (t148 h5) ?_
    refine mGo.steps 1 (c' := (229, List.drop 23 mC229, [.ref p0, .int p1, .int s.1, .int s.2.1, .int s.2.2.1, .int s.2.2.2, w6, w7, w8, w9, w10], [.int 1, .int q4], μ)) rfl ?_
    rcases mIte hr with ⟨h41, hr⟩ | ⟨h41, hr⟩
    · refine gBrT (p := ¬ q4 = 1) (y := 229) (is := List.drop 24 mC229) (L := [.ref p0, .int p1, .int s.1, .int s.2.1, .int s.2.2.1, .int s.2.2.2, w6, w7, w8, w9, w10]) (st := []) (μ := μ) (t := 63) rfl h41 ?_
      exact t229L15_35 μ p0 p1 s.1 s.2.1 s.2.2.1 s.2.2.2 w6 hw6 w7 hw7 w8 hw8 w9 hw9 w10 hw10 hr hC
    · refine gBrF (p := ¬ q4 = 1) (y := 229) (is := List.drop 24 mC229) (L := [.ref p0, .int p1, .int s.1, .int s.2.1, .int s.2.2.1, .int s.2.2.2, w6, w7, w8, w9, w10]) (st := []) (μ := μ) (t := 63) rfl h41 ?_
      refine mGo.steps 2 (c' := (229, List.drop 26 mC229, [.ref p0, .int p1, .int s.1, .int s.2.1, .int s.2.2.1, .int s.2.2.2, w6, w7, w8, w9, w10], [.int s.2.2.2, .ref p0], μ)) rfl ?_
      obtain ⟨q34, h35, hr⟩ := mBi hr
      refine gCall (z := 152) (n := 1) (f := 0) (kind := 1) (a := p0) (As := [.int s.2.2.2]) (y := 229) (is := List.drop 27 mC229) (L := [.ref p0, .int p1, .int s.1, .int s.2.1, .int s.2.2.1, .int s.2.2.2, w6, w7, w8, w9, w10]) (rest := []) (μ := μ) rfl (by decide) (by decide) ⟨rfl, rfl⟩ rfl h3 (Nat.le_of_ble_eq_true rfl) (Nat.le_of_ble_eq_true rfl) (t152 h35) ?_
      refine mGo.steps 1 (c' := (229, List.drop 28 mC229, [.ref p0, .int p1, .int s.1, .int s.2.1, .int s.2.2.1, .int s.2.2.2, w6, w7, w8, w9, w10], [.int 4, .int q34], μ)) rfl ?_
      rcases mIte hr with ⟨h40, hr⟩ | ⟨h40, hr⟩
      · refine gBrT (p := 4 ≤ q34) (y := 229) (is := List.drop 29 mC229) (L := [.ref p0, .int p1, .int s.1, .int s.2.1, .int s.2.2.1, .int s.2.2.2, w6, w7, w8, w9, w10]) (st := []) (μ := μ) (t := 63) rfl h40 ?_
        exact t229L15_35 μ p0 p1 s.1 s.2.1 s.2.2.1 s.2.2.2 w6 hw6 w7 hw7 w8 hw8 w9 hw9 w10 hw10 hr hC
      · refine gBrF (p := 4 ≤ q34) (y := 229) (is := List.drop 29 mC229) (L := [.ref p0, .int p1, .int s.1, .int s.2.1, .int s.2.2.1, .int s.2.2.2, w6, w7, w8, w9, w10]) (st := []) (μ := μ) (t := 63) rfl h40 ?_
        refine mGo.steps 3 (c' := (229, List.drop 32 mC229, [.ref p0, .int p1, .int s.1, .int s.2.1, .int s.2.2.1, .int s.2.2.2, w6, w7, w8, w9, w10], [.int 1, .int s.2.2.2, .ref p0], μ)) rfl ?_
        obtain ⟨q36, h37, hr⟩ := mBi hr
        refine gCall (z := 148) (n := 2) (f := 0) (kind := 1) (a := p0) (As := [.int s.2.2.2, .int 1]) (y := 229) (is := List.drop 33 mC229) (L := [.ref p0, .int p1, .int s.1, .int s.2.1, .int s.2.2.1, .int s.2.2.2, w6, w7, w8, w9, w10]) (rest := []) (μ := μ) rfl (by decide) (by decide) ⟨rfl, rfl⟩ rfl h3 (Nat.le_of_ble_eq_true rfl) (Nat.le_of_ble_eq_true rfl) (t148 h37) ?_
        obtain ⟨q38, h39, hr⟩ := mBi hr
        refine mGo.call (z := 146) (as := [.int q36]) (y := 229) (is := List.drop 34 mC229) (L := [.ref p0, .int p1, .int s.1, .int s.2.1, .int s.2.2.1, .int s.2.2.2, w6, w7, w8, w9, w10]) (st := []) (μ := μ) rfl (t146 h39) ?_
        refine mGo.steps 1 (c' := (229, List.drop 36 mC229, [.ref p0, .int p1, .int s.1, .int s.2.1, .int s.2.2.1, .int s.2.2.2, w6, w7, w8, w9, w10], [.int q38], μ)) rfl ?_
        exact t229L15_36 μ p0 p1 s.1 s.2.1 s.2.2.1 s.2.2.2 q38 w6 hw6 w7 hw7 w8 hw8 w9 hw9 w10 hw10 hr hC
theorem t229L15l (μ : mM) (p0 : Nat) (p1 : Int32) {r : Option Value × mM} (n : Nat) (s : Int32 × Int32 × Int32 × Int32) (o : (Int32) ⊕ Int32) (hr : mLoop (s229L15 μ p0 p1) n s = some o) (hC : Sum.elim (fun x : Int32 => ∀ (w0 : Value) (hw0 : mNotL w0 = true) (w1 : Value) (hw1 : mNotL w1 = true) (w3 : Value) (hw3 : mNotL w3 = true) (w4 : Value) (hw4 : mNotL w4 = true) (w5 : Value) (hw5 : mNotL w5 = true) (w6 : Value) (hw6 : mNotL w6 = true) (w7 : Value) (hw7 : mNotL w7 = true) (w8 : Value) (hw8 : mNotL w8 = true) (w9 : Value) (hw9 : mNotL w9 = true) (w10 : Value) (hw10 : mNotL w10 = true), mGo mG (229, List.drop 99 mC229, [w0, w1, .int x, w3, w4, w5, w6, w7, w8, w9, w10], [], μ) r) (fun y : Int32 => r = (some (.int y), μ)) o) : ∀ (w6 : Value) (hw6 : mNotL w6 = true) (w7 : Value) (hw7 : mNotL w7 = true) (w8 : Value) (hw8 : mNotL w8 = true) (w9 : Value) (hw9 : mNotL w9 = true) (w10 : Value) (hw10 : mNotL w10 = true), mGo mG (229, List.drop 15 mC229, [.ref p0, .int p1, .int s.1, .int s.2.1, .int s.2.2.1, .int s.2.2.2, w6, w7, w8, w9, w10], [], μ) r :=
  mLoop_go (Hd := (fun s' : Int32 × Int32 × Int32 × Int32 => ∀ (w6 : Value) (hw6 : mNotL w6 = true) (w7 : Value) (hw7 : mNotL w7 = true) (w8 : Value) (hw8 : mNotL w8 = true) (w9 : Value) (hw9 : mNotL w9 = true) (w10 : Value) (hw10 : mNotL w10 = true), mGo mG (229, List.drop 15 mC229, [.ref p0, .int p1, .int s'.1, .int s'.2.1, .int s'.2.2.1, .int s'.2.2.2, w6, w7, w8, w9, w10], [], μ) r)) (fun s o hb hC => t229L15 μ p0 p1 s o hb hC) n s o hr hC
def s229 (μ : mM) (a0 : Nat) (a1 : Int32) : Option Int32 :=
  (s144 μ a1 1 3).bind fun q1 => if ¬ q1 = 0 then ((mLoop (s229L15 μ a0 a1) 1000 ((-10), (-1), 0, 0)).bind fun o43 => Sum.elim (fun x44 => some x44) (fun y45 => some y45) o43) else (some (-1))
set_option maxRecDepth 20000 in
theorem t229 {μ : mM} {a0 : Nat} {a1 : Int32} {o : Int32} (hr : s229 μ a0 a1 = some o) : mEv mG 229 [.ref a0, .int a1] μ (some (.int o)) (μ) := by
  obtain ⟨r, hC⟩ : ∃ r : Option Value × mM, r = (some (.int o), μ) := ⟨_, rfl⟩
  show mGo mG (229, List.drop 0 mC229, [.ref a0, .int a1, .retAddr 0, .retAddr 0, .retAddr 0, .retAddr 0, .retAddr 0, .retAddr 0, .retAddr 0, .retAddr 0, .retAddr 0], [], μ) (some (.int o), μ)
  rw [← hC]
  unfold s229 at hr
  refine mGo.steps 3 (c' := (229, List.drop 3 mC229, [.ref a0, .int a1, .retAddr 0, .retAddr 0, .retAddr 0, .retAddr 0, .retAddr 0, .retAddr 0, .retAddr 0, .retAddr 0, .retAddr 0], [.int 3, .int 1, .int a1], μ)) rfl ?_
  obtain ⟨q1, h2, hr⟩ := mBi hr
  refine mGo.call (z := 144) (as := [.int a1, .int 1, .int 3]) (y := 229) (is := List.drop 4 mC229) (L := [.ref a0, .int a1, .retAddr 0, .retAddr 0, .retAddr 0, .retAddr 0, .retAddr 0, .retAddr 0, .retAddr 0, .retAddr 0, .retAddr 0]) (st := []) (μ := μ) rfl (t144 h2) ?_
  rcases mIte hr with ⟨h47, hr⟩ | ⟨h47, hr⟩
  · refine gBrT (p := ¬ q1 = 0) (y := 229) (is := List.drop 5 mC229) (L := [.ref a0, .int a1, .retAddr 0, .retAddr 0, .retAddr 0, .retAddr 0, .retAddr 0, .retAddr 0, .retAddr 0, .retAddr 0, .retAddr 0]) (st := []) (μ := μ) (t := 11) rfl h47 ?_
    refine mGo.steps 8 (c' := (229, List.drop 15 mC229, [.ref a0, .int a1, .int (-10), .int (-1), .int 0, .int 0, .retAddr 0, .retAddr 0, .retAddr 0, .retAddr 0, .retAddr 0], [], μ)) rfl ?_
    obtain ⟨o43, h46, hr⟩ := mBi hr
    refine t229L15l μ a0 a1 1000 ((-10), (-1), 0, 0) o43 h46 ?_ (.retAddr 0) rfl (.retAddr 0) rfl (.retAddr 0) rfl (.retAddr 0) rfl (.retAddr 0) rfl
    cases o43 with
    | inl x44 =>
      show ∀ (w0 : Value) (hw0 : mNotL w0 = true) (w1 : Value) (hw1 : mNotL w1 = true) (w3 : Value) (hw3 : mNotL w3 = true) (w4 : Value) (hw4 : mNotL w4 = true) (w5 : Value) (hw5 : mNotL w5 = true) (w6 : Value) (hw6 : mNotL w6 = true) (w7 : Value) (hw7 : mNotL w7 = true) (w8 : Value) (hw8 : mNotL w8 = true) (w9 : Value) (hw9 : mNotL w9 = true) (w10 : Value) (hw10 : mNotL w10 = true), mGo mG (229, List.drop 99 mC229, [w0, w1, .int x44, w3, w4, w5, w6, w7, w8, w9, w10], [], μ) r
      intro w0 hw0 w1 hw1 w3 hw3 w4 hw4 w5 hw5 w6 hw6 w7 hw7 w8 hw8 w9 hw9 w10 hw10
      replace hr : (_) = some _ := hr
      refine mGo.steps 1 (c' := (229, List.drop 100 mC229, [w0, w1, .int x44, w3, w4, w5, w6, w7, w8, w9, w10], [.int x44], μ)) rfl ?_
      obtain rfl := Option.some.inj hr
      rw [show r = _ from hC]
      exact gIret rfl
    | inr y45 =>
      obtain rfl := Option.some.inj hr
      exact hC
  · refine gBrF (p := ¬ q1 = 0) (y := 229) (is := List.drop 5 mC229) (L := [.ref a0, .int a1, .retAddr 0, .retAddr 0, .retAddr 0, .retAddr 0, .retAddr 0, .retAddr 0, .retAddr 0, .retAddr 0, .retAddr 0]) (st := []) (μ := μ) (t := 11) rfl h47 ?_
    refine mGo.steps 1 (c' := (229, List.drop 6 mC229, [.ref a0, .int a1, .retAddr 0, .retAddr 0, .retAddr 0, .retAddr 0, .retAddr 0, .retAddr 0, .retAddr 0, .retAddr 0, .retAddr 0], [.int (-1)], μ)) rfl ?_
    obtain rfl := Option.some.inj hr
    rw [show r = _ from hC]
    exact gIret rfl

/-! 230: TunnelFabricModel.granted()I -/
def s230L4_25 (μ : mM) (p0 : Nat) (v2 : Int32) (t0 : Int32) (t1 : Int32) : Option ((Int32 × Int32) ⊕ ((Int32) ⊕ Int32)) :=
  some (.inl (t1 + t0, v2 + 1))
set_option maxRecDepth 20000 in
theorem t230L4_25 (μ : mM) (p0 : Nat) (v2 : Int32) (t0 : Int32) (t1 : Int32) (w1 : Value) (hw1 : mNotL w1 = true) {o : ((Int32 × Int32) ⊕ ((Int32) ⊕ Int32))} {r : Option Value × mM} (hr : s230L4_25 μ p0 v2 t0 t1 = some o) (hC : Sum.elim (fun s' : Int32 × Int32 => mGo mG (230, List.drop 4 mC230, [.ref p0, .int s'.1, .int s'.2], [], μ) r) (Sum.elim (fun x : Int32 => ∀ (w0 : Value) (hw0 : mNotL w0 = true) (w2 : Value) (hw2 : mNotL w2 = true), mGo mG (230, List.drop 29 mC230, [w0, .int x, w2], [], μ) r) (fun y : Int32 => r = (some (.int y), μ))) o) : mGo mG (230, List.drop 25 mC230, [.ref p0, w1, .int v2], [.int t0, .int t1], μ) r := by
  unfold s230L4_25 at hr
  refine mGo.steps 4 (c' := (230, List.drop 4 mC230, [.ref p0, .int (t1 + t0), .int (v2 + 1)], [], μ)) rfl ?_
  obtain rfl := Option.some.inj hr
  exact hC
def s230L4_24 (μ : mM) (p0 : Nat) (v2 : Int32) (t0 : Int32) : Option ((Int32 × Int32) ⊕ ((Int32) ⊕ Int32)) :=
  s230L4_25 μ p0 v2 0 t0
set_option maxRecDepth 20000 in
theorem t230L4_24 (μ : mM) (p0 : Nat) (v2 : Int32) (t0 : Int32) (w1 : Value) (hw1 : mNotL w1 = true) {o : ((Int32 × Int32) ⊕ ((Int32) ⊕ Int32))} {r : Option Value × mM} (hr : s230L4_24 μ p0 v2 t0 = some o) (hC : Sum.elim (fun s' : Int32 × Int32 => mGo mG (230, List.drop 4 mC230, [.ref p0, .int s'.1, .int s'.2], [], μ) r) (Sum.elim (fun x : Int32 => ∀ (w0 : Value) (hw0 : mNotL w0 = true) (w2 : Value) (hw2 : mNotL w2 = true), mGo mG (230, List.drop 29 mC230, [w0, .int x, w2], [], μ) r) (fun y : Int32 => r = (some (.int y), μ))) o) : mGo mG (230, List.drop 24 mC230, [.ref p0, w1, .int v2], [.int t0], μ) r := by
  unfold s230L4_24 at hr
  refine mGo.steps 1 (c' := (230, List.drop 25 mC230, [.ref p0, w1, .int v2], [.int 0, .int t0], μ)) rfl ?_
  exact t230L4_25 μ p0 v2 0 t0 w1 hw1 hr hC
def s230L4 (μ : mM) (p0 : Nat) (s : Int32 × Int32) : Option ((Int32 × Int32) ⊕ ((Int32) ⊕ Int32)) :=
  if 10 ≤ s.2 then (some (.inr (.inl s.1))) else (if (mS μ p0).1 = 9 then (s159 μ p0 s.2 0).bind fun q2 => if ¬ q2 = 1 then (s230L4_24 μ p0 s.2 s.1) else ((s159 μ p0 s.2 1).bind fun q4 => if ¬ q4 = 0 then (s230L4_24 μ p0 s.2 s.1) else ((s159 μ p0 s.2 4).bind fun q6 => s230L4_25 μ p0 s.2 q6 s.1)) else none)
set_option maxRecDepth 20000 in
theorem t230L4 (μ : mM) (p0 : Nat) {r : Option Value × mM} (s : Int32 × Int32) (o : ((Int32 × Int32) ⊕ ((Int32) ⊕ Int32))) (hr : s230L4 μ p0 s = some o) (hC : Sum.elim (fun s' : Int32 × Int32 => mGo mG (230, List.drop 4 mC230, [.ref p0, .int s'.1, .int s'.2], [], μ) r) (Sum.elim (fun x : Int32 => ∀ (w0 : Value) (hw0 : mNotL w0 = true) (w2 : Value) (hw2 : mNotL w2 = true), mGo mG (230, List.drop 29 mC230, [w0, .int x, w2], [], μ) r) (fun y : Int32 => r = (some (.int y), μ))) o) : mGo mG (230, List.drop 4 mC230, [.ref p0, .int s.1, .int s.2], [], μ) r := by
  unfold s230L4 at hr
  refine mGo.steps 2 (c' := (230, List.drop 6 mC230, [.ref p0, .int s.1, .int s.2], [.int 10, .int s.2], μ)) rfl ?_
  rcases mIte hr with ⟨h10, hr⟩ | ⟨h10, hr⟩
  · refine gBrT (p := 10 ≤ s.2) (y := 230) (is := List.drop 7 mC230) (L := [.ref p0, .int s.1, .int s.2]) (st := []) (μ := μ) (t := 48) rfl h10 ?_
    obtain rfl := Option.some.inj hr
    exact hC (.ref p0) rfl (.int s.2) rfl
  · refine gBrF (p := 10 ≤ s.2) (y := 230) (is := List.drop 7 mC230) (L := [.ref p0, .int s.1, .int s.2]) (st := []) (μ := μ) (t := 48) rfl h10 ?_
    refine mGo.steps 4 (c' := (230, List.drop 11 mC230, [.ref p0, .int s.1, .int s.2], [.int 0, .int s.2, .ref p0, .int s.1], μ)) rfl ?_
    obtain ⟨h1, hr⟩ := mIf hr
    obtain ⟨q2, h3, hr⟩ := mBi hr
    refine gCall (z := 159) (n := 2) (f := 0) (kind := 1) (a := p0) (As := [.int s.2, .int 0]) (y := 230) (is := List.drop 12 mC230) (L := [.ref p0, .int s.1, .int s.2]) (rest := [.int s.1]) (μ := μ) rfl (by decide) (by decide) ⟨rfl, rfl⟩ rfl h1 (Nat.le_of_ble_eq_true rfl) (Nat.le_of_ble_eq_true rfl) (t159 h3) ?_
    refine mGo.steps 1 (c' := (230, List.drop 13 mC230, [.ref p0, .int s.1, .int s.2], [.int 1, .int q2, .int s.1], μ)) rfl ?_
    rcases mIte hr with ⟨h9, hr⟩ | ⟨h9, hr⟩
    · refine gBrT (p := ¬ q2 = 1) (y := 230) (is := List.drop 14 mC230) (L := [.ref p0, .int s.1, .int s.2]) (st := [.int s.1]) (μ := μ) (t := 39) rfl h9 ?_
      exact t230L4_24 μ p0 s.2 s.1 (.int s.1) rfl hr hC
    · refine gBrF (p := ¬ q2 = 1) (y := 230) (is := List.drop 14 mC230) (L := [.ref p0, .int s.1, .int s.2]) (st := [.int s.1]) (μ := μ) (t := 39) rfl h9 ?_
      refine mGo.steps 3 (c' := (230, List.drop 17 mC230, [.ref p0, .int s.1, .int s.2], [.int 1, .int s.2, .ref p0, .int s.1], μ)) rfl ?_
      obtain ⟨q4, h5, hr⟩ := mBi hr
      refine gCall (z := 159) (n := 2) (f := 0) (kind := 1) (a := p0) (As := [.int s.2, .int 1]) (y := 230) (is := List.drop 18 mC230) (L := [.ref p0, .int s.1, .int s.2]) (rest := [.int s.1]) (μ := μ) rfl (by decide) (by decide) ⟨rfl, rfl⟩ rfl h1 (Nat.le_of_ble_eq_true rfl) (Nat.le_of_ble_eq_true rfl) (t159 h5) ?_
      rcases mIte hr with ⟨h8, hr⟩ | ⟨h8, hr⟩
      · refine gBrT (p := ¬ q4 = 0) (y := 230) (is := List.drop 19 mC230) (L := [.ref p0, .int s.1, .int s.2]) (st := [.int s.1]) (μ := μ) (t := 39) rfl h8 ?_
        exact t230L4_24 μ p0 s.2 s.1 (.int s.1) rfl hr hC
      · refine gBrF (p := ¬ q4 = 0) (y := 230) (is := List.drop 19 mC230) (L := [.ref p0, .int s.1, .int s.2]) (st := [.int s.1]) (μ := μ) (t := 39) rfl h8 ?_
        refine mGo.steps 3 (c' := (230, List.drop 22 mC230, [.ref p0, .int s.1, .int s.2], [.int 4, .int s.2, .ref p0, .int s.1], μ)) rfl ?_
        obtain ⟨q6, h7, hr⟩ := mBi hr
        refine gCall (z := 159) (n := 2) (f := 0) (kind := 1) (a := p0) (As := [.int s.2, .int 4]) (y := 230) (is := List.drop 23 mC230) (L := [.ref p0, .int s.1, .int s.2]) (rest := [.int s.1]) (μ := μ) rfl (by decide) (by decide) ⟨rfl, rfl⟩ rfl h1 (Nat.le_of_ble_eq_true rfl) (Nat.le_of_ble_eq_true rfl) (t159 h7) ?_
        refine mGo.steps 1 (c' := (230, List.drop 25 mC230, [.ref p0, .int s.1, .int s.2], [.int q6, .int s.1], μ)) rfl ?_
        exact t230L4_25 μ p0 s.2 q6 s.1 (.int s.1) rfl hr hC
theorem t230L4l (μ : mM) (p0 : Nat) {r : Option Value × mM} (n : Nat) (s : Int32 × Int32) (o : (Int32) ⊕ Int32) (hr : mLoop (s230L4 μ p0) n s = some o) (hC : Sum.elim (fun x : Int32 => ∀ (w0 : Value) (hw0 : mNotL w0 = true) (w2 : Value) (hw2 : mNotL w2 = true), mGo mG (230, List.drop 29 mC230, [w0, .int x, w2], [], μ) r) (fun y : Int32 => r = (some (.int y), μ)) o) : mGo mG (230, List.drop 4 mC230, [.ref p0, .int s.1, .int s.2], [], μ) r :=
  mLoop_go (Hd := (fun s' : Int32 × Int32 => mGo mG (230, List.drop 4 mC230, [.ref p0, .int s'.1, .int s'.2], [], μ) r)) (fun s o hb hC => t230L4 μ p0 s o hb hC) n s o hr hC
def s230 (μ : mM) (a0 : Nat) : Option Int32 :=
  (mLoop (s230L4 μ a0) 1000 (0, 0)).bind fun o11 => Sum.elim (fun x12 => some x12) (fun y13 => some y13) o11
set_option maxRecDepth 20000 in
theorem t230 {μ : mM} {a0 : Nat} {o : Int32} (hr : s230 μ a0 = some o) : mEv mG 230 [.ref a0] μ (some (.int o)) (μ) := by
  obtain ⟨r, hC⟩ : ∃ r : Option Value × mM, r = (some (.int o), μ) := ⟨_, rfl⟩
  show mGo mG (230, List.drop 0 mC230, [.ref a0, .retAddr 0, .retAddr 0], [], μ) (some (.int o), μ)
  rw [← hC]
  unfold s230 at hr
  refine mGo.steps 4 (c' := (230, List.drop 4 mC230, [.ref a0, .int 0, .int 0], [], μ)) rfl ?_
  obtain ⟨o11, h14, hr⟩ := mBi hr
  refine t230L4l μ a0 1000 (0, 0) o11 h14 ?_ 
  cases o11 with
  | inl x12 =>
    show ∀ (w0 : Value) (hw0 : mNotL w0 = true) (w2 : Value) (hw2 : mNotL w2 = true), mGo mG (230, List.drop 29 mC230, [w0, .int x12, w2], [], μ) r
    intro w0 hw0 w2 hw2
    replace hr : (_) = some _ := hr
    refine mGo.steps 1 (c' := (230, List.drop 30 mC230, [w0, .int x12, w2], [.int x12], μ)) rfl ?_
    obtain rfl := Option.some.inj hr
    rw [show r = _ from hC]
    exact gIret rfl
  | inr y13 =>
    obtain rfl := Option.some.inj hr
    exact hC

/-! 231: TunnelFabricModel.gain(I)I -/
def s231L8 (p0 : Nat) (p1 : Int32) (s : Int32 × mM) : Option ((Int32 × mM) ⊕ ((mM) ⊕ (Int32 × mM))) :=
  if 10 ≤ s.1 then (some (.inr (.inl s.2))) else (if (mS s.2 p0).1 = 9 then (s159 s.2 p0 s.1 4).bind fun q5 => if (mS s.2 (mP s.2 p0 19)).1 = 10 ∧ mInb s.1 (mS s.2 (mP s.2 p0 19)).2 then (some (mUI s.2 (mP s.2 p0 19) (Int32.toNatClampNeg s.1) q5)).bind fun μ8 => some (.inl (s.1 + 1, μ8)) else none else none)
set_option maxRecDepth 20000 in
theorem t231L8 (p0 : Nat) (p1 : Int32) {r : Option Value × mM} (s : Int32 × mM) (o : ((Int32 × mM) ⊕ ((mM) ⊕ (Int32 × mM)))) (hr : s231L8 p0 p1 s = some o) (hC : Sum.elim (fun s' : Int32 × mM => ∀ (w3 : Value) (hw3 : mNotL w3 = true), mGo mG (231, List.drop 8 mC231, [.ref p0, .int p1, .int s'.1, w3], [], s'.2) r) (Sum.elim (fun x : mM => ∀ (w2 : Value) (hw2 : mNotL w2 = true) (w3 : Value) (hw3 : mNotL w3 = true), mGo mG (231, List.drop 21 mC231, [.ref p0, .int p1, w2, w3], [], x) r) (fun y : (Int32 × mM) => r = (some (.int y.1), y.2))) o) : ∀ (w3 : Value) (hw3 : mNotL w3 = true), mGo mG (231, List.drop 8 mC231, [.ref p0, .int p1, .int s.1, w3], [], s.2) r := by
  intro w3 hw3
  unfold s231L8 at hr
  refine mGo.steps 2 (c' := (231, List.drop 10 mC231, [.ref p0, .int p1, .int s.1, w3], [.int 10, .int s.1], s.2)) rfl ?_
  rcases mIte hr with ⟨h9, hr⟩ | ⟨h9, hr⟩
  · refine gBrT (p := 10 ≤ s.1) (y := 231) (is := List.drop 11 mC231) (L := [.ref p0, .int p1, .int s.1, w3]) (st := []) (μ := s.2) (t := 36) rfl h9 ?_
    obtain rfl := Option.some.inj hr
    exact hC (.int s.1) rfl w3 hw3
  · refine gBrF (p := 10 ≤ s.1) (y := 231) (is := List.drop 11 mC231) (L := [.ref p0, .int p1, .int s.1, w3]) (st := []) (μ := s.2) (t := 36) rfl h9 ?_
    refine mGo.steps 1 (c' := (231, List.drop 12 mC231, [.ref p0, .int p1, .int s.1, w3], [.ref p0], s.2)) rfl ?_
    obtain ⟨h4, hr⟩ := mIf hr
    refine gGet (is := List.drop 13 mC231) (v := .ref (mP s.2 p0 19)) h4 rfl ?_
    refine mGo.steps 4 (c' := (231, List.drop 17 mC231, [.ref p0, .int p1, .int s.1, w3], [.int 4, .int s.1, .ref p0, .int s.1, .ref (mP s.2 p0 19)], s.2)) rfl ?_
    obtain ⟨q5, h6, hr⟩ := mBi hr
    refine gCall (z := 159) (n := 2) (f := 0) (kind := 1) (a := p0) (As := [.int s.1, .int 4]) (y := 231) (is := List.drop 18 mC231) (L := [.ref p0, .int p1, .int s.1, w3]) (rest := [.int s.1, .ref (mP s.2 p0 19)]) (μ := s.2) rfl (by decide) (by decide) ⟨rfl, rfl⟩ rfl h4 (Nat.le_of_ble_eq_true rfl) (Nat.le_of_ble_eq_true rfl) (t159 h6) ?_
    obtain ⟨h7, hr⟩ := mIf hr
    replace hr := mBs hr
    refine gIast (is := List.drop 19 mC231) h7 ?_
    let μ8 : mM := mUI s.2 (mP s.2 p0 19) (Int32.toNatClampNeg s.1) q5
    refine mGo.steps 2 (c' := (231, List.drop 8 mC231, [.ref p0, .int p1, .int (s.1 + 1), w3], [], μ8)) rfl ?_
    obtain rfl := Option.some.inj hr
    exact hC w3 hw3
theorem t231L8l (p0 : Nat) (p1 : Int32) {r : Option Value × mM} (n : Nat) (s : Int32 × mM) (o : (mM) ⊕ (Int32 × mM)) (hr : mLoop (s231L8 p0 p1) n s = some o) (hC : Sum.elim (fun x : mM => ∀ (w2 : Value) (hw2 : mNotL w2 = true) (w3 : Value) (hw3 : mNotL w3 = true), mGo mG (231, List.drop 21 mC231, [.ref p0, .int p1, w2, w3], [], x) r) (fun y : (Int32 × mM) => r = (some (.int y.1), y.2)) o) : ∀ (w3 : Value) (hw3 : mNotL w3 = true), mGo mG (231, List.drop 8 mC231, [.ref p0, .int p1, .int s.1, w3], [], s.2) r :=
  mLoop_go (Hd := (fun s' : Int32 × mM => ∀ (w3 : Value) (hw3 : mNotL w3 = true), mGo mG (231, List.drop 8 mC231, [.ref p0, .int p1, .int s'.1, w3], [], s'.2) r)) (fun s o hb hC => t231L8 p0 p1 s o hb hC) n s o hr hC
def s231L43 (p0 : Nat) (p2 : Int32) (s : Int32 × mM) : Option ((Int32 × mM) ⊕ ((mM) ⊕ (Int32 × mM))) :=
  if 10 ≤ s.1 then (some (.inr (.inl s.2))) else (if (mS s.2 p0).1 = 9 then if (mS s.2 (mP s.2 p0 19)).1 = 10 ∧ mInb s.1 (mS s.2 (mP s.2 p0 19)).2 then (s160 s.2 p0 s.1 4 (mI s.2 (mP s.2 p0 19) (Int32.toNatClampNeg s.1))).bind fun q29 => some (.inl (s.1 + 1, q29)) else none else none)
set_option maxRecDepth 20000 in
theorem t231L43 (p0 : Nat) (p2 : Int32) {r : Option Value × mM} (s : Int32 × mM) (o : ((Int32 × mM) ⊕ ((mM) ⊕ (Int32 × mM)))) (hr : s231L43 p0 p2 s = some o) (hC : Sum.elim (fun s' : Int32 × mM => ∀ (w1 : Value) (hw1 : mNotL w1 = true), mGo mG (231, List.drop 43 mC231, [.ref p0, w1, .int p2, .int s'.1], [], s'.2) r) (Sum.elim (fun x : mM => ∀ (w0 : Value) (hw0 : mNotL w0 = true) (w1 : Value) (hw1 : mNotL w1 = true) (w3 : Value) (hw3 : mNotL w3 = true), mGo mG (231, List.drop 56 mC231, [w0, w1, .int p2, w3], [], x) r) (fun y : (Int32 × mM) => r = (some (.int y.1), y.2))) o) : ∀ (w1 : Value) (hw1 : mNotL w1 = true), mGo mG (231, List.drop 43 mC231, [.ref p0, w1, .int p2, .int s.1], [], s.2) r := by
  intro w1 hw1
  unfold s231L43 at hr
  refine mGo.steps 2 (c' := (231, List.drop 45 mC231, [.ref p0, w1, .int p2, .int s.1], [.int 10, .int s.1], s.2)) rfl ?_
  rcases mIte hr with ⟨h31, hr⟩ | ⟨h31, hr⟩
  · refine gBrT (p := 10 ≤ s.1) (y := 231) (is := List.drop 46 mC231) (L := [.ref p0, w1, .int p2, .int s.1]) (st := []) (μ := s.2) (t := 92) rfl h31 ?_
    obtain rfl := Option.some.inj hr
    exact hC (.ref p0) rfl w1 hw1 (.int s.1) rfl
  · refine gBrF (p := 10 ≤ s.1) (y := 231) (is := List.drop 46 mC231) (L := [.ref p0, w1, .int p2, .int s.1]) (st := []) (μ := s.2) (t := 92) rfl h31 ?_
    refine mGo.steps 4 (c' := (231, List.drop 50 mC231, [.ref p0, w1, .int p2, .int s.1], [.ref p0, .int 4, .int s.1, .ref p0], s.2)) rfl ?_
    obtain ⟨h27, hr⟩ := mIf hr
    refine gGet (is := List.drop 51 mC231) (v := .ref (mP s.2 p0 19)) h27 rfl ?_
    refine mGo.steps 1 (c' := (231, List.drop 52 mC231, [.ref p0, w1, .int p2, .int s.1], [.int s.1, .ref (mP s.2 p0 19), .int 4, .int s.1, .ref p0], s.2)) rfl ?_
    obtain ⟨h28, hr⟩ := mIf hr
    refine gIald (is := List.drop 53 mC231) h28 ?_
    obtain ⟨q29, h30, hr⟩ := mBi hr
    refine gCall (z := 160) (n := 3) (f := 0) (kind := 1) (a := p0) (As := [.int s.1, .int 4, .int (mI s.2 (mP s.2 p0 19) (Int32.toNatClampNeg s.1))]) (y := 231) (is := List.drop 54 mC231) (L := [.ref p0, w1, .int p2, .int s.1]) (rest := []) (μ := s.2) rfl (by decide) (by decide) ⟨rfl, rfl⟩ rfl h27 (Nat.le_of_ble_eq_true rfl) (Nat.le_of_ble_eq_true rfl) (t160 h30) ?_
    refine mGo.steps 2 (c' := (231, List.drop 43 mC231, [.ref p0, w1, .int p2, .int (s.1 + 1)], [], q29)) rfl ?_
    obtain rfl := Option.some.inj hr
    exact hC w1 hw1
theorem t231L43l (p0 : Nat) (p2 : Int32) {r : Option Value × mM} (n : Nat) (s : Int32 × mM) (o : (mM) ⊕ (Int32 × mM)) (hr : mLoop (s231L43 p0 p2) n s = some o) (hC : Sum.elim (fun x : mM => ∀ (w0 : Value) (hw0 : mNotL w0 = true) (w1 : Value) (hw1 : mNotL w1 = true) (w3 : Value) (hw3 : mNotL w3 = true), mGo mG (231, List.drop 56 mC231, [w0, w1, .int p2, w3], [], x) r) (fun y : (Int32 × mM) => r = (some (.int y.1), y.2)) o) : ∀ (w1 : Value) (hw1 : mNotL w1 = true), mGo mG (231, List.drop 43 mC231, [.ref p0, w1, .int p2, .int s.1], [], s.2) r :=
  mLoop_go (Hd := (fun s' : Int32 × mM => ∀ (w1 : Value) (hw1 : mNotL w1 = true), mGo mG (231, List.drop 43 mC231, [.ref p0, w1, .int p2, .int s'.1], [], s'.2) r)) (fun s o hb hC => t231L43 p0 p2 s o hb hC) n s o hr hC
def s231 (μ : mM) (a0 : Nat) (a1 : Int32) : Option (Int32 × mM) :=
  if (mS μ a0).1 = 9 then (s161 μ a0 a1).bind fun q2 => if ¬ q2 = 0 then ((mLoop (s231L8 a0 a1) 1000 (0, μ)).bind fun o10 => Sum.elim (fun x11 => if (mS x11 a0).1 = 9 then (s160 x11 a0 a1 0 0).bind fun q15 => if (mS q15 a0).1 = 9 then (s230 q15 a0).bind fun q18 => (s171 q15 a0).bind fun q20 => if (mS q20 a0).1 = 9 then (s230 q20 a0).bind fun q23 => (s160 q20 a0 a1 0 1).bind fun q25 => (mLoop (s231L43 a0 (q23 - q18)) 1000 (0, q25)).bind fun o32 => Sum.elim (fun x33 => some (q23 - q18, x33)) (fun y34 => some y34) o32 else none else none else none) (fun y12 => some y12) o10) else (some ((-1), μ)) else none
set_option maxRecDepth 20000 in
theorem t231 {μ : mM} {a0 : Nat} {a1 : Int32} {o : (Int32 × mM)} (hr : s231 μ a0 a1 = some o) : mEv mG 231 [.ref a0, .int a1] μ (some (.int o.1)) (o.2) := by
  obtain ⟨r, hC⟩ : ∃ r : Option Value × mM, r = (some (.int o.1), o.2) := ⟨_, rfl⟩
  show mGo mG (231, List.drop 0 mC231, [.ref a0, .int a1, .retAddr 0, .retAddr 0], [], μ) (some (.int o.1), o.2)
  rw [← hC]
  unfold s231 at hr
  refine mGo.steps 2 (c' := (231, List.drop 2 mC231, [.ref a0, .int a1, .retAddr 0, .retAddr 0], [.int a1, .ref a0], μ)) rfl ?_
  obtain ⟨h1, hr⟩ := mIf hr
  obtain ⟨q2, h3, hr⟩ := mBi hr
  refine gCall (z := 161) (n := 1) (f := 0) (kind := 1) (a := a0) (As := [.int a1]) (y := 231) (is := List.drop 3 mC231) (L := [.ref a0, .int a1, .retAddr 0, .retAddr 0]) (rest := []) (μ := μ) rfl (by decide) (by decide) ⟨rfl, rfl⟩ rfl h1 (Nat.le_of_ble_eq_true rfl) (Nat.le_of_ble_eq_true rfl) (t161 h3) ?_
  rcases mIte hr with ⟨h36, hr⟩ | ⟨h36, hr⟩
  · refine gBrT (p := ¬ q2 = 0) (y := 231) (is := List.drop 4 mC231) (L := [.ref a0, .int a1, .retAddr 0, .retAddr 0]) (st := []) (μ := μ) (t := 10) rfl h36 ?_
    refine mGo.steps 2 (c' := (231, List.drop 8 mC231, [.ref a0, .int a1, .int 0, .retAddr 0], [], μ)) rfl ?_
    obtain ⟨o10, h13, hr⟩ := mBi hr
    refine t231L8l a0 a1 1000 (0, μ) o10 h13 ?_ (.retAddr 0) rfl
    cases o10 with
    | inl x11 =>
      show ∀ (w2 : Value) (hw2 : mNotL w2 = true) (w3 : Value) (hw3 : mNotL w3 = true), mGo mG (231, List.drop 21 mC231, [.ref a0, .int a1, w2, w3], [], x11) r
      intro w2 hw2 w3 hw3
      replace hr : (_) = some _ := hr
      refine mGo.steps 4 (c' := (231, List.drop 25 mC231, [.ref a0, .int a1, w2, w3], [.int 0, .int 0, .int a1, .ref a0], x11)) rfl ?_
      obtain ⟨h14, hr⟩ := mIf hr
      obtain ⟨q15, h16, hr⟩ := mBi hr
      refine gCall (z := 160) (n := 3) (f := 0) (kind := 1) (a := a0) (As := [.int a1, .int 0, .int 0]) (y := 231) (is := List.drop 26 mC231) (L := [.ref a0, .int a1, w2, w3]) (rest := []) (μ := x11) rfl (by decide) (by decide) ⟨rfl, rfl⟩ rfl h14 (Nat.le_of_ble_eq_true rfl) (Nat.le_of_ble_eq_true rfl) (t160 h16) ?_
      refine mGo.steps 1 (c' := (231, List.drop 27 mC231, [.ref a0, .int a1, w2, w3], [.ref a0], q15)) rfl ?_
      obtain ⟨h17, hr⟩ := mIf hr
      obtain ⟨q18, h19, hr⟩ := mBi hr
      refine gCall (z := 230) (n := 0) (f := 0) (kind := 1) (a := a0) (As := []) (y := 231) (is := List.drop 28 mC231) (L := [.ref a0, .int a1, w2, w3]) (rest := []) (μ := q15) rfl (by decide) (by decide) ⟨rfl, rfl⟩ rfl h17 (Nat.le_of_ble_eq_true rfl) (Nat.le_of_ble_eq_true rfl) (t230 h19) ?_
      refine mGo.steps 2 (c' := (231, List.drop 30 mC231, [.ref a0, .int a1, .int q18, w3], [.ref a0], q15)) rfl ?_
      obtain ⟨q20, h21, hr⟩ := mBi hr
      refine gCall (z := 171) (n := 0) (f := 0) (kind := 1) (a := a0) (As := []) (y := 231) (is := List.drop 31 mC231) (L := [.ref a0, .int a1, .int q18, w3]) (rest := []) (μ := q15) rfl (by decide) (by decide) ⟨rfl, rfl⟩ rfl h17 (Nat.le_of_ble_eq_true rfl) (Nat.le_of_ble_eq_true rfl) (t171 h21) ?_
      refine mGo.steps 1 (c' := (231, List.drop 32 mC231, [.ref a0, .int a1, .int q18, w3], [.ref a0], q20)) rfl ?_
      obtain ⟨h22, hr⟩ := mIf hr
      obtain ⟨q23, h24, hr⟩ := mBi hr
      refine gCall (z := 230) (n := 0) (f := 0) (kind := 1) (a := a0) (As := []) (y := 231) (is := List.drop 33 mC231) (L := [.ref a0, .int a1, .int q18, w3]) (rest := []) (μ := q20) rfl (by decide) (by decide) ⟨rfl, rfl⟩ rfl h22 (Nat.le_of_ble_eq_true rfl) (Nat.le_of_ble_eq_true rfl) (t230 h24) ?_
      refine mGo.steps 7 (c' := (231, List.drop 40 mC231, [.ref a0, .int a1, .int (q23 - q18), w3], [.int 1, .int 0, .int a1, .ref a0], q20)) rfl ?_
      obtain ⟨q25, h26, hr⟩ := mBi hr
      refine gCall (z := 160) (n := 3) (f := 0) (kind := 1) (a := a0) (As := [.int a1, .int 0, .int 1]) (y := 231) (is := List.drop 41 mC231) (L := [.ref a0, .int a1, .int (q23 - q18), w3]) (rest := []) (μ := q20) rfl (by decide) (by decide) ⟨rfl, rfl⟩ rfl h22 (Nat.le_of_ble_eq_true rfl) (Nat.le_of_ble_eq_true rfl) (t160 h26) ?_
      refine mGo.steps 2 (c' := (231, List.drop 43 mC231, [.ref a0, .int a1, .int (q23 - q18), .int 0], [], q25)) rfl ?_
      obtain ⟨o32, h35, hr⟩ := mBi hr
      refine t231L43l a0 (q23 - q18) 1000 (0, q25) o32 h35 ?_ (.int a1) rfl
      cases o32 with
      | inl x33 =>
        show ∀ (w0 : Value) (hw0 : mNotL w0 = true) (w1 : Value) (hw1 : mNotL w1 = true) (w3 : Value) (hw3 : mNotL w3 = true), mGo mG (231, List.drop 56 mC231, [w0, w1, .int (q23 - q18), w3], [], x33) r
        intro w0 hw0 w1 hw1 w3 hw3
        replace hr : (_) = some _ := hr
        refine mGo.steps 1 (c' := (231, List.drop 57 mC231, [w0, w1, .int (q23 - q18), w3], [.int (q23 - q18)], x33)) rfl ?_
        obtain rfl := Option.some.inj hr
        rw [show r = _ from hC]
        exact gIret rfl
      | inr y34 =>
        obtain rfl := Option.some.inj hr
        exact hC
    | inr y12 =>
      obtain rfl := Option.some.inj hr
      exact hC
  · refine gBrF (p := ¬ q2 = 0) (y := 231) (is := List.drop 4 mC231) (L := [.ref a0, .int a1, .retAddr 0, .retAddr 0]) (st := []) (μ := μ) (t := 10) rfl h36 ?_
    refine mGo.steps 1 (c' := (231, List.drop 5 mC231, [.ref a0, .int a1, .retAddr 0, .retAddr 0], [.int (-1)], μ)) rfl ?_
    obtain rfl := Option.some.inj hr
    rw [show r = _ from hC]
    exact gIret rfl

/-! 232: TunnelFabricModel.bottleneck(I)I -/
def s232L13_41 (μ : mM) (p0 : Nat) (v3 : Int32) (t0 : Int32) : Option ((Int32 × Int32) ⊕ ((Int32) ⊕ Int32)) :=
  if (mS μ p0).1 = 9 then (s148 μ p0 v3 3).bind fun q7 => some (.inl (t0, q7)) else none
set_option maxRecDepth 20000 in
theorem t232L13_41 (μ : mM) (p0 : Nat) (v3 : Int32) (t0 : Int32) (w1 : Value) (hw1 : mNotL w1 = true) (w2 : Value) (hw2 : mNotL w2 = true) (w4 : Value) (hw4 : mNotL w4 = true) {o : ((Int32 × Int32) ⊕ ((Int32) ⊕ Int32))} {r : Option Value × mM} (hr : s232L13_41 μ p0 v3 t0 = some o) (hC : Sum.elim (fun s' : Int32 × Int32 => ∀ (w1 : Value) (hw1 : mNotL w1 = true) (w4 : Value) (hw4 : mNotL w4 = true), mGo mG (232, List.drop 13 mC232, [.ref p0, w1, .int s'.1, .int s'.2, w4], [], μ) r) (Sum.elim (fun x : Int32 => ∀ (w0 : Value) (hw0 : mNotL w0 = true) (w1 : Value) (hw1 : mNotL w1 = true) (w3 : Value) (hw3 : mNotL w3 = true) (w4 : Value) (hw4 : mNotL w4 = true), mGo mG (232, List.drop 48 mC232, [w0, w1, .int x, w3, w4], [], μ) r) (fun y : Int32 => r = (some (.int y), μ))) o) : mGo mG (232, List.drop 41 mC232, [.ref p0, w1, w2, .int v3, w4], [.int t0], μ) r := by
  unfold s232L13_41 at hr
  refine gSt1 (L := [.ref p0, w1, w2, .int v3, w4]) (q := 2) (w := .int t0) (is := List.drop 42 mC232) (st := []) (μ := μ) rfl (Nat.le_of_ble_eq_true rfl) hw1 ?_
  refine mGo.steps 3 (c' := (232, List.drop 45 mC232, [.ref p0, w1, .int t0, .int v3, w4], [.int 3, .int v3, .ref p0], μ)) rfl ?_
  obtain ⟨h6, hr⟩ := mIf hr
  obtain ⟨q7, h8, hr⟩ := mBi hr
  refine gCall (z := 148) (n := 2) (f := 0) (kind := 1) (a := p0) (As := [.int v3, .int 3]) (y := 232) (is := List.drop 46 mC232) (L := [.ref p0, w1, .int t0, .int v3, w4]) (rest := []) (μ := μ) rfl (by decide) (by decide) ⟨rfl, rfl⟩ rfl h6 (Nat.le_of_ble_eq_true rfl) (Nat.le_of_ble_eq_true rfl) (t148 h8) ?_
  refine mGo.steps 2 (c' := (232, List.drop 13 mC232, [.ref p0, w1, .int t0, .int q7, w4], [], μ)) rfl ?_
  obtain rfl := Option.some.inj hr
  exact hC w1 hw1 w4 hw4
def s232L13_35 (μ : mM) (p0 : Nat) (v2 : Int32) (v3 : Int32) (t0 : Int32) : Option ((Int32 × Int32) ⊕ ((Int32) ⊕ Int32)) :=
  if t0 = 0 then (s232L13_41 μ p0 v3 v2) else (s232L13_41 μ p0 v3 v3)
set_option maxRecDepth 20000 in
theorem t232L13_35 (μ : mM) (p0 : Nat) (v2 : Int32) (v3 : Int32) (t0 : Int32) (w1 : Value) (hw1 : mNotL w1 = true) (w4 : Value) (hw4 : mNotL w4 = true) {o : ((Int32 × Int32) ⊕ ((Int32) ⊕ Int32))} {r : Option Value × mM} (hr : s232L13_35 μ p0 v2 v3 t0 = some o) (hC : Sum.elim (fun s' : Int32 × Int32 => ∀ (w1 : Value) (hw1 : mNotL w1 = true) (w4 : Value) (hw4 : mNotL w4 = true), mGo mG (232, List.drop 13 mC232, [.ref p0, w1, .int s'.1, .int s'.2, w4], [], μ) r) (Sum.elim (fun x : Int32 => ∀ (w0 : Value) (hw0 : mNotL w0 = true) (w1 : Value) (hw1 : mNotL w1 = true) (w3 : Value) (hw3 : mNotL w3 = true) (w4 : Value) (hw4 : mNotL w4 = true), mGo mG (232, List.drop 48 mC232, [w0, w1, .int x, w3, w4], [], μ) r) (fun y : Int32 => r = (some (.int y), μ))) o) : mGo mG (232, List.drop 35 mC232, [.ref p0, w1, .int v2, .int v3, w4], [.int t0], μ) r := by
  unfold s232L13_35 at hr
  refine mGo.steps 2 (c' := (232, List.drop 37 mC232, [.ref p0, w1, .int v2, .int v3, .int t0], [.int t0], μ)) rfl ?_
  rcases mIte hr with ⟨h9, hr⟩ | ⟨h9, hr⟩
  · refine gBrT (p := t0 = 0) (y := 232) (is := List.drop 38 mC232) (L := [.ref p0, w1, .int v2, .int v3, .int t0]) (st := []) (μ := μ) (t := 68) rfl h9 ?_
    refine mGo.steps 1 (c' := (232, List.drop 41 mC232, [.ref p0, w1, .int v2, .int v3, .int t0], [.int v2], μ)) rfl ?_
    exact t232L13_41 μ p0 v3 v2 w1 hw1 (.int v2) rfl (.int t0) rfl hr hC
  · refine gBrF (p := t0 = 0) (y := 232) (is := List.drop 38 mC232) (L := [.ref p0, w1, .int v2, .int v3, .int t0]) (st := []) (μ := μ) (t := 68) rfl h9 ?_
    refine mGo.steps 2 (c' := (232, List.drop 41 mC232, [.ref p0, w1, .int v2, .int v3, .int t0], [.int v3], μ)) rfl ?_
    exact t232L13_41 μ p0 v3 v3 w1 hw1 (.int v2) rfl (.int t0) rfl hr hC
def s232L13_32 (μ : mM) (p0 : Nat) (v2 : Int32) (v3 : Int32) : Option ((Int32 × Int32) ⊕ ((Int32) ⊕ Int32)) :=
  s232L13_35 μ p0 v2 v3 1
set_option maxRecDepth 20000 in
theorem t232L13_32 (μ : mM) (p0 : Nat) (v2 : Int32) (v3 : Int32) (w1 : Value) (hw1 : mNotL w1 = true) (w4 : Value) (hw4 : mNotL w4 = true) {o : ((Int32 × Int32) ⊕ ((Int32) ⊕ Int32))} {r : Option Value × mM} (hr : s232L13_32 μ p0 v2 v3 = some o) (hC : Sum.elim (fun s' : Int32 × Int32 => ∀ (w1 : Value) (hw1 : mNotL w1 = true) (w4 : Value) (hw4 : mNotL w4 = true), mGo mG (232, List.drop 13 mC232, [.ref p0, w1, .int s'.1, .int s'.2, w4], [], μ) r) (Sum.elim (fun x : Int32 => ∀ (w0 : Value) (hw0 : mNotL w0 = true) (w1 : Value) (hw1 : mNotL w1 = true) (w3 : Value) (hw3 : mNotL w3 = true) (w4 : Value) (hw4 : mNotL w4 = true), mGo mG (232, List.drop 48 mC232, [w0, w1, .int x, w3, w4], [], μ) r) (fun y : Int32 => r = (some (.int y), μ))) o) : mGo mG (232, List.drop 32 mC232, [.ref p0, w1, .int v2, .int v3, w4], [], μ) r := by
  unfold s232L13_32 at hr
  refine mGo.steps 2 (c' := (232, List.drop 35 mC232, [.ref p0, w1, .int v2, .int v3, w4], [.int 1], μ)) rfl ?_
  exact t232L13_35 μ p0 v2 v3 1 w1 hw1 w4 hw4 hr hC
def s232L13 (μ : mM) (p0 : Nat) (s : Int32 × Int32) : Option ((Int32 × Int32) ⊕ ((Int32) ⊕ Int32)) :=
  if s.2 ≤ 0 then (some (.inr (.inl s.1))) else (if s.1 = 0 then (s232L13_32 μ p0 s.1 s.2) else (if (mS μ p0).1 = 9 then (s157 μ p0 s.2).bind fun q11 => (s168 μ p0 s.2).bind fun q13 => (s157 μ p0 s.1).bind fun q15 => (s168 μ p0 s.1).bind fun q17 => if (q15 - q17) < (q11 - q13) then (s232L13_35 μ p0 s.1 s.2 0) else (s232L13_32 μ p0 s.1 s.2) else none))
set_option maxRecDepth 20000 in
theorem t232L13 (μ : mM) (p0 : Nat) {r : Option Value × mM} (s : Int32 × Int32) (o : ((Int32 × Int32) ⊕ ((Int32) ⊕ Int32))) (hr : s232L13 μ p0 s = some o) (hC : Sum.elim (fun s' : Int32 × Int32 => ∀ (w1 : Value) (hw1 : mNotL w1 = true) (w4 : Value) (hw4 : mNotL w4 = true), mGo mG (232, List.drop 13 mC232, [.ref p0, w1, .int s'.1, .int s'.2, w4], [], μ) r) (Sum.elim (fun x : Int32 => ∀ (w0 : Value) (hw0 : mNotL w0 = true) (w1 : Value) (hw1 : mNotL w1 = true) (w3 : Value) (hw3 : mNotL w3 = true) (w4 : Value) (hw4 : mNotL w4 = true), mGo mG (232, List.drop 48 mC232, [w0, w1, .int x, w3, w4], [], μ) r) (fun y : Int32 => r = (some (.int y), μ))) o) : ∀ (w1 : Value) (hw1 : mNotL w1 = true) (w4 : Value) (hw4 : mNotL w4 = true), mGo mG (232, List.drop 13 mC232, [.ref p0, w1, .int s.1, .int s.2, w4], [], μ) r := by
  intro w1 hw1 w4 hw4
  unfold s232L13 at hr
  refine mGo.steps 1 (c' := (232, List.drop 14 mC232, [.ref p0, w1, .int s.1, .int s.2, w4], [.int s.2], μ)) rfl ?_
  rcases mIte hr with ⟨h21, hr⟩ | ⟨h21, hr⟩
  · refine gBrT (p := s.2 ≤ 0) (y := 232) (is := List.drop 15 mC232) (L := [.ref p0, w1, .int s.1, .int s.2, w4]) (st := []) (μ := μ) (t := 80) rfl h21 ?_
    obtain rfl := Option.some.inj hr
    exact hC (.ref p0) rfl w1 hw1 (.int s.2) rfl w4 hw4
  · refine gBrF (p := s.2 ≤ 0) (y := 232) (is := List.drop 15 mC232) (L := [.ref p0, w1, .int s.1, .int s.2, w4]) (st := []) (μ := μ) (t := 80) rfl h21 ?_
    refine mGo.steps 1 (c' := (232, List.drop 16 mC232, [.ref p0, w1, .int s.1, .int s.2, w4], [.int s.1], μ)) rfl ?_
    rcases mIte hr with ⟨h20, hr⟩ | ⟨h20, hr⟩
    · refine gBrT (p := s.1 = 0) (y := 232) (is := List.drop 17 mC232) (L := [.ref p0, w1, .int s.1, .int s.2, w4]) (st := []) (μ := μ) (t := 52) rfl h20 ?_
      exact t232L13_32 μ p0 s.1 s.2 w1 hw1 w4 hw4 hr hC
    · refine gBrF (p := s.1 = 0) (y := 232) (is := List.drop 17 mC232) (L := [.ref p0, w1, .int s.1, .int s.2, w4]) (st := []) (μ := μ) (t := 52) rfl h20 ?_
      refine mGo.steps 2 (c' := (232, List.drop 19 mC232, [.ref p0, w1, .int s.1, .int s.2, w4], [.int s.2, .ref p0], μ)) rfl ?_
      obtain ⟨h10, hr⟩ := mIf hr
      obtain ⟨q11, h12, hr⟩ := mBi hr
      refine gCall (z := 157) (n := 1) (f := 0) (kind := 1) (a := p0) (As := [.int s.2]) (y := 232) (is := List.drop 20 mC232) (L := [.ref p0, w1, .int s.1, .int s.2, w4]) (rest := []) (μ := μ) rfl (by decide) (by decide) ⟨rfl, rfl⟩ rfl h10 (Nat.le_of_ble_eq_true rfl) (Nat.le_of_ble_eq_true rfl) (t157 h12) ?_
      refine mGo.steps 2 (c' := (232, List.drop 22 mC232, [.ref p0, w1, .int s.1, .int s.2, w4], [.int s.2, .ref p0, .int q11], μ)) rfl ?_
      obtain ⟨q13, h14, hr⟩ := mBi hr
      refine gCall (z := 168) (n := 1) (f := 0) (kind := 1) (a := p0) (As := [.int s.2]) (y := 232) (is := List.drop 23 mC232) (L := [.ref p0, w1, .int s.1, .int s.2, w4]) (rest := [.int q11]) (μ := μ) rfl (by decide) (by decide) ⟨rfl, rfl⟩ rfl h10 (Nat.le_of_ble_eq_true rfl) (Nat.le_of_ble_eq_true rfl) (t168 h14) ?_
      refine mGo.steps 3 (c' := (232, List.drop 26 mC232, [.ref p0, w1, .int s.1, .int s.2, w4], [.int s.1, .ref p0, .int (q11 - q13)], μ)) rfl ?_
      obtain ⟨q15, h16, hr⟩ := mBi hr
      refine gCall (z := 157) (n := 1) (f := 0) (kind := 1) (a := p0) (As := [.int s.1]) (y := 232) (is := List.drop 27 mC232) (L := [.ref p0, w1, .int s.1, .int s.2, w4]) (rest := [.int (q11 - q13)]) (μ := μ) rfl (by decide) (by decide) ⟨rfl, rfl⟩ rfl h10 (Nat.le_of_ble_eq_true rfl) (Nat.le_of_ble_eq_true rfl) (t157 h16) ?_
      refine mGo.steps 2 (c' := (232, List.drop 29 mC232, [.ref p0, w1, .int s.1, .int s.2, w4], [.int s.1, .ref p0, .int q15, .int (q11 - q13)], μ)) rfl ?_
      obtain ⟨q17, h18, hr⟩ := mBi hr
      refine gCall (z := 168) (n := 1) (f := 0) (kind := 1) (a := p0) (As := [.int s.1]) (y := 232) (is := List.drop 30 mC232) (L := [.ref p0, w1, .int s.1, .int s.2, w4]) (rest := [.int q15, .int (q11 - q13)]) (μ := μ) rfl (by decide) (by decide) ⟨rfl, rfl⟩ rfl h10 (Nat.le_of_ble_eq_true rfl) (Nat.le_of_ble_eq_true rfl) (t168 h18) ?_
      refine mGo.steps 1 (c' := (232, List.drop 31 mC232, [.ref p0, w1, .int s.1, .int s.2, w4], [.int (q15 - q17), .int (q11 - q13)], μ)) rfl ?_
      rcases mIte hr with ⟨h19, hr⟩ | ⟨h19, hr⟩
      · refine gBrT (p := (q15 - q17) < (q11 - q13)) (y := 232) (is := List.drop 32 mC232) (L := [.ref p0, w1, .int s.1, .int s.2, w4]) (st := []) (μ := μ) (t := 56) rfl h19 ?_
        refine mGo.steps 1 (c' := (232, List.drop 35 mC232, [.ref p0, w1, .int s.1, .int s.2, w4], [.int 0], μ)) rfl ?_
        exact t232L13_35 μ p0 s.1 s.2 0 w1 hw1 w4 hw4 hr hC
      · refine gBrF (p := (q15 - q17) < (q11 - q13)) (y := 232) (is := List.drop 32 mC232) (L := [.ref p0, w1, .int s.1, .int s.2, w4]) (st := []) (μ := μ) (t := 56) rfl h19 ?_
        exact t232L13_32 μ p0 s.1 s.2 w1 hw1 w4 hw4 hr hC
theorem t232L13l (μ : mM) (p0 : Nat) {r : Option Value × mM} (n : Nat) (s : Int32 × Int32) (o : (Int32) ⊕ Int32) (hr : mLoop (s232L13 μ p0) n s = some o) (hC : Sum.elim (fun x : Int32 => ∀ (w0 : Value) (hw0 : mNotL w0 = true) (w1 : Value) (hw1 : mNotL w1 = true) (w3 : Value) (hw3 : mNotL w3 = true) (w4 : Value) (hw4 : mNotL w4 = true), mGo mG (232, List.drop 48 mC232, [w0, w1, .int x, w3, w4], [], μ) r) (fun y : Int32 => r = (some (.int y), μ)) o) : ∀ (w1 : Value) (hw1 : mNotL w1 = true) (w4 : Value) (hw4 : mNotL w4 = true), mGo mG (232, List.drop 13 mC232, [.ref p0, w1, .int s.1, .int s.2, w4], [], μ) r :=
  mLoop_go (Hd := (fun s' : Int32 × Int32 => ∀ (w1 : Value) (hw1 : mNotL w1 = true) (w4 : Value) (hw4 : mNotL w4 = true), mGo mG (232, List.drop 13 mC232, [.ref p0, w1, .int s'.1, .int s'.2, w4], [], μ) r)) (fun s o hb hC => t232L13 μ p0 s o hb hC) n s o hr hC
def s232 (μ : mM) (a0 : Nat) (a1 : Int32) : Option Int32 :=
  if (mS μ a0).1 = 9 then (s161 μ a0 a1).bind fun q2 => if ¬ q2 = 0 then ((s159 μ a0 a1 2).bind fun q4 => (mLoop (s232L13 μ a0) 1000 (0, q4)).bind fun o22 => Sum.elim (fun x23 => some x23) (fun y24 => some y24) o22) else (some (-1)) else none
set_option maxRecDepth 20000 in
theorem t232 {μ : mM} {a0 : Nat} {a1 : Int32} {o : Int32} (hr : s232 μ a0 a1 = some o) : mEv mG 232 [.ref a0, .int a1] μ (some (.int o)) (μ) := by
  obtain ⟨r, hC⟩ : ∃ r : Option Value × mM, r = (some (.int o), μ) := ⟨_, rfl⟩
  show mGo mG (232, List.drop 0 mC232, [.ref a0, .int a1, .retAddr 0, .retAddr 0, .retAddr 0], [], μ) (some (.int o), μ)
  rw [← hC]
  unfold s232 at hr
  refine mGo.steps 2 (c' := (232, List.drop 2 mC232, [.ref a0, .int a1, .retAddr 0, .retAddr 0, .retAddr 0], [.int a1, .ref a0], μ)) rfl ?_
  obtain ⟨h1, hr⟩ := mIf hr
  obtain ⟨q2, h3, hr⟩ := mBi hr
  refine gCall (z := 161) (n := 1) (f := 0) (kind := 1) (a := a0) (As := [.int a1]) (y := 232) (is := List.drop 3 mC232) (L := [.ref a0, .int a1, .retAddr 0, .retAddr 0, .retAddr 0]) (rest := []) (μ := μ) rfl (by decide) (by decide) ⟨rfl, rfl⟩ rfl h1 (Nat.le_of_ble_eq_true rfl) (Nat.le_of_ble_eq_true rfl) (t161 h3) ?_
  rcases mIte hr with ⟨h26, hr⟩ | ⟨h26, hr⟩
  · refine gBrT (p := ¬ q2 = 0) (y := 232) (is := List.drop 4 mC232) (L := [.ref a0, .int a1, .retAddr 0, .retAddr 0, .retAddr 0]) (st := []) (μ := μ) (t := 10) rfl h26 ?_
    refine mGo.steps 5 (c' := (232, List.drop 11 mC232, [.ref a0, .int a1, .int 0, .retAddr 0, .retAddr 0], [.int 2, .int a1, .ref a0], μ)) rfl ?_
    obtain ⟨q4, h5, hr⟩ := mBi hr
    refine gCall (z := 159) (n := 2) (f := 0) (kind := 1) (a := a0) (As := [.int a1, .int 2]) (y := 232) (is := List.drop 12 mC232) (L := [.ref a0, .int a1, .int 0, .retAddr 0, .retAddr 0]) (rest := []) (μ := μ) rfl (by decide) (by decide) ⟨rfl, rfl⟩ rfl h1 (Nat.le_of_ble_eq_true rfl) (Nat.le_of_ble_eq_true rfl) (t159 h5) ?_
    refine mGo.steps 1 (c' := (232, List.drop 13 mC232, [.ref a0, .int a1, .int 0, .int q4, .retAddr 0], [], μ)) rfl ?_
    obtain ⟨o22, h25, hr⟩ := mBi hr
    refine t232L13l μ a0 1000 (0, q4) o22 h25 ?_ (.int a1) rfl (.retAddr 0) rfl
    cases o22 with
    | inl x23 =>
      show ∀ (w0 : Value) (hw0 : mNotL w0 = true) (w1 : Value) (hw1 : mNotL w1 = true) (w3 : Value) (hw3 : mNotL w3 = true) (w4 : Value) (hw4 : mNotL w4 = true), mGo mG (232, List.drop 48 mC232, [w0, w1, .int x23, w3, w4], [], μ) r
      intro w0 hw0 w1 hw1 w3 hw3 w4 hw4
      replace hr : (_) = some _ := hr
      refine mGo.steps 1 (c' := (232, List.drop 49 mC232, [w0, w1, .int x23, w3, w4], [.int x23], μ)) rfl ?_
      obtain rfl := Option.some.inj hr
      rw [show r = _ from hC]
      exact gIret rfl
    | inr y24 =>
      obtain rfl := Option.some.inj hr
      exact hC
  · refine gBrF (p := ¬ q2 = 0) (y := 232) (is := List.drop 4 mC232) (L := [.ref a0, .int a1, .retAddr 0, .retAddr 0, .retAddr 0]) (st := []) (μ := μ) (t := 10) rfl h26 ?_
    refine mGo.steps 1 (c' := (232, List.drop 5 mC232, [.ref a0, .int a1, .retAddr 0, .retAddr 0, .retAddr 0], [.int (-1)], μ)) rfl ?_
    obtain rfl := Option.some.inj hr
    rw [show r = _ from hC]
    exact gIret rfl

/-! 233: TunnelFabricModel.asleep()I -/
def s233L4_23 (μ : mM) (p0 : Nat) (v2 : Int32) (t0 : Int32) (t1 : Int32) : Option ((Int32 × Int32) ⊕ ((Int32) ⊕ Int32)) :=
  some (.inl (t1 + t0, v2 + 1))
set_option maxRecDepth 20000 in
theorem t233L4_23 (μ : mM) (p0 : Nat) (v2 : Int32) (t0 : Int32) (t1 : Int32) (w1 : Value) (hw1 : mNotL w1 = true) {o : ((Int32 × Int32) ⊕ ((Int32) ⊕ Int32))} {r : Option Value × mM} (hr : s233L4_23 μ p0 v2 t0 t1 = some o) (hC : Sum.elim (fun s' : Int32 × Int32 => mGo mG (233, List.drop 4 mC233, [.ref p0, .int s'.1, .int s'.2], [], μ) r) (Sum.elim (fun x : Int32 => ∀ (w0 : Value) (hw0 : mNotL w0 = true) (w2 : Value) (hw2 : mNotL w2 = true), mGo mG (233, List.drop 27 mC233, [w0, .int x, w2], [], μ) r) (fun y : Int32 => r = (some (.int y), μ))) o) : mGo mG (233, List.drop 23 mC233, [.ref p0, w1, .int v2], [.int t0, .int t1], μ) r := by
  unfold s233L4_23 at hr
  refine mGo.steps 4 (c' := (233, List.drop 4 mC233, [.ref p0, .int (t1 + t0), .int (v2 + 1)], [], μ)) rfl ?_
  obtain rfl := Option.some.inj hr
  exact hC
def s233L4_22 (μ : mM) (p0 : Nat) (v2 : Int32) (t0 : Int32) : Option ((Int32 × Int32) ⊕ ((Int32) ⊕ Int32)) :=
  s233L4_23 μ p0 v2 0 t0
set_option maxRecDepth 20000 in
theorem t233L4_22 (μ : mM) (p0 : Nat) (v2 : Int32) (t0 : Int32) (w1 : Value) (hw1 : mNotL w1 = true) {o : ((Int32 × Int32) ⊕ ((Int32) ⊕ Int32))} {r : Option Value × mM} (hr : s233L4_22 μ p0 v2 t0 = some o) (hC : Sum.elim (fun s' : Int32 × Int32 => mGo mG (233, List.drop 4 mC233, [.ref p0, .int s'.1, .int s'.2], [], μ) r) (Sum.elim (fun x : Int32 => ∀ (w0 : Value) (hw0 : mNotL w0 = true) (w2 : Value) (hw2 : mNotL w2 = true), mGo mG (233, List.drop 27 mC233, [w0, .int x, w2], [], μ) r) (fun y : Int32 => r = (some (.int y), μ))) o) : mGo mG (233, List.drop 22 mC233, [.ref p0, w1, .int v2], [.int t0], μ) r := by
  unfold s233L4_22 at hr
  refine mGo.steps 1 (c' := (233, List.drop 23 mC233, [.ref p0, w1, .int v2], [.int 0, .int t0], μ)) rfl ?_
  exact t233L4_23 μ p0 v2 0 t0 w1 hw1 hr hC
def s233L4 (μ : mM) (p0 : Nat) (s : Int32 × Int32) : Option ((Int32 × Int32) ⊕ ((Int32) ⊕ Int32)) :=
  if 8 ≤ s.2 then (some (.inr (.inl s.1))) else (if (mS μ p0).1 = 9 then (s148 μ p0 s.2 0).bind fun q2 => if ¬ q2 = 1 then (s233L4_22 μ p0 s.2 s.1) else ((s148 μ p0 s.2 6).bind fun q4 => if ¬ q4 = 2 then (s233L4_22 μ p0 s.2 s.1) else (s233L4_23 μ p0 s.2 1 s.1)) else none)
set_option maxRecDepth 20000 in
theorem t233L4 (μ : mM) (p0 : Nat) {r : Option Value × mM} (s : Int32 × Int32) (o : ((Int32 × Int32) ⊕ ((Int32) ⊕ Int32))) (hr : s233L4 μ p0 s = some o) (hC : Sum.elim (fun s' : Int32 × Int32 => mGo mG (233, List.drop 4 mC233, [.ref p0, .int s'.1, .int s'.2], [], μ) r) (Sum.elim (fun x : Int32 => ∀ (w0 : Value) (hw0 : mNotL w0 = true) (w2 : Value) (hw2 : mNotL w2 = true), mGo mG (233, List.drop 27 mC233, [w0, .int x, w2], [], μ) r) (fun y : Int32 => r = (some (.int y), μ))) o) : mGo mG (233, List.drop 4 mC233, [.ref p0, .int s.1, .int s.2], [], μ) r := by
  unfold s233L4 at hr
  refine mGo.steps 2 (c' := (233, List.drop 6 mC233, [.ref p0, .int s.1, .int s.2], [.int 8, .int s.2], μ)) rfl ?_
  rcases mIte hr with ⟨h8, hr⟩ | ⟨h8, hr⟩
  · refine gBrT (p := 8 ≤ s.2) (y := 233) (is := List.drop 7 mC233) (L := [.ref p0, .int s.1, .int s.2]) (st := []) (μ := μ) (t := 45) rfl h8 ?_
    obtain rfl := Option.some.inj hr
    exact hC (.ref p0) rfl (.int s.2) rfl
  · refine gBrF (p := 8 ≤ s.2) (y := 233) (is := List.drop 7 mC233) (L := [.ref p0, .int s.1, .int s.2]) (st := []) (μ := μ) (t := 45) rfl h8 ?_
    refine mGo.steps 4 (c' := (233, List.drop 11 mC233, [.ref p0, .int s.1, .int s.2], [.int 0, .int s.2, .ref p0, .int s.1], μ)) rfl ?_
    obtain ⟨h1, hr⟩ := mIf hr
    obtain ⟨q2, h3, hr⟩ := mBi hr
    refine gCall (z := 148) (n := 2) (f := 0) (kind := 1) (a := p0) (As := [.int s.2, .int 0]) (y := 233) (is := List.drop 12 mC233) (L := [.ref p0, .int s.1, .int s.2]) (rest := [.int s.1]) (μ := μ) rfl (by decide) (by decide) ⟨rfl, rfl⟩ rfl h1 (Nat.le_of_ble_eq_true rfl) (Nat.le_of_ble_eq_true rfl) (t148 h3) ?_
    refine mGo.steps 1 (c' := (233, List.drop 13 mC233, [.ref p0, .int s.1, .int s.2], [.int 1, .int q2, .int s.1], μ)) rfl ?_
    rcases mIte hr with ⟨h7, hr⟩ | ⟨h7, hr⟩
    · refine gBrT (p := ¬ q2 = 1) (y := 233) (is := List.drop 14 mC233) (L := [.ref p0, .int s.1, .int s.2]) (st := [.int s.1]) (μ := μ) (t := 36) rfl h7 ?_
      exact t233L4_22 μ p0 s.2 s.1 (.int s.1) rfl hr hC
    · refine gBrF (p := ¬ q2 = 1) (y := 233) (is := List.drop 14 mC233) (L := [.ref p0, .int s.1, .int s.2]) (st := [.int s.1]) (μ := μ) (t := 36) rfl h7 ?_
      refine mGo.steps 3 (c' := (233, List.drop 17 mC233, [.ref p0, .int s.1, .int s.2], [.int 6, .int s.2, .ref p0, .int s.1], μ)) rfl ?_
      obtain ⟨q4, h5, hr⟩ := mBi hr
      refine gCall (z := 148) (n := 2) (f := 0) (kind := 1) (a := p0) (As := [.int s.2, .int 6]) (y := 233) (is := List.drop 18 mC233) (L := [.ref p0, .int s.1, .int s.2]) (rest := [.int s.1]) (μ := μ) rfl (by decide) (by decide) ⟨rfl, rfl⟩ rfl h1 (Nat.le_of_ble_eq_true rfl) (Nat.le_of_ble_eq_true rfl) (t148 h5) ?_
      refine mGo.steps 1 (c' := (233, List.drop 19 mC233, [.ref p0, .int s.1, .int s.2], [.int 2, .int q4, .int s.1], μ)) rfl ?_
      rcases mIte hr with ⟨h6, hr⟩ | ⟨h6, hr⟩
      · refine gBrT (p := ¬ q4 = 2) (y := 233) (is := List.drop 20 mC233) (L := [.ref p0, .int s.1, .int s.2]) (st := [.int s.1]) (μ := μ) (t := 36) rfl h6 ?_
        exact t233L4_22 μ p0 s.2 s.1 (.int s.1) rfl hr hC
      · refine gBrF (p := ¬ q4 = 2) (y := 233) (is := List.drop 20 mC233) (L := [.ref p0, .int s.1, .int s.2]) (st := [.int s.1]) (μ := μ) (t := 36) rfl h6 ?_
        refine mGo.steps 2 (c' := (233, List.drop 23 mC233, [.ref p0, .int s.1, .int s.2], [.int 1, .int s.1], μ)) rfl ?_
        exact t233L4_23 μ p0 s.2 1 s.1 (.int s.1) rfl hr hC
theorem t233L4l (μ : mM) (p0 : Nat) {r : Option Value × mM} (n : Nat) (s : Int32 × Int32) (o : (Int32) ⊕ Int32) (hr : mLoop (s233L4 μ p0) n s = some o) (hC : Sum.elim (fun x : Int32 => ∀ (w0 : Value) (hw0 : mNotL w0 = true) (w2 : Value) (hw2 : mNotL w2 = true), mGo mG (233, List.drop 27 mC233, [w0, .int x, w2], [], μ) r) (fun y : Int32 => r = (some (.int y), μ)) o) : mGo mG (233, List.drop 4 mC233, [.ref p0, .int s.1, .int s.2], [], μ) r :=
  mLoop_go (Hd := (fun s' : Int32 × Int32 => mGo mG (233, List.drop 4 mC233, [.ref p0, .int s'.1, .int s'.2], [], μ) r)) (fun s o hb hC => t233L4 μ p0 s o hb hC) n s o hr hC
def s233 (μ : mM) (a0 : Nat) : Option Int32 :=
  (mLoop (s233L4 μ a0) 1000 (0, 1)).bind fun o9 => Sum.elim (fun x10 => some x10) (fun y11 => some y11) o9
set_option maxRecDepth 20000 in
theorem t233 {μ : mM} {a0 : Nat} {o : Int32} (hr : s233 μ a0 = some o) : mEv mG 233 [.ref a0] μ (some (.int o)) (μ) := by
  obtain ⟨r, hC⟩ : ∃ r : Option Value × mM, r = (some (.int o), μ) := ⟨_, rfl⟩
  show mGo mG (233, List.drop 0 mC233, [.ref a0, .retAddr 0, .retAddr 0], [], μ) (some (.int o), μ)
  rw [← hC]
  unfold s233 at hr
  refine mGo.steps 4 (c' := (233, List.drop 4 mC233, [.ref a0, .int 0, .int 1], [], μ)) rfl ?_
  obtain ⟨o9, h12, hr⟩ := mBi hr
  refine t233L4l μ a0 1000 (0, 1) o9 h12 ?_ 
  cases o9 with
  | inl x10 =>
    show ∀ (w0 : Value) (hw0 : mNotL w0 = true) (w2 : Value) (hw2 : mNotL w2 = true), mGo mG (233, List.drop 27 mC233, [w0, .int x10, w2], [], μ) r
    intro w0 hw0 w2 hw2
    replace hr : (_) = some _ := hr
    refine mGo.steps 1 (c' := (233, List.drop 28 mC233, [w0, .int x10, w2], [.int x10], μ)) rfl ?_
    obtain rfl := Option.some.inj hr
    rw [show r = _ from hC]
    exact gIret rfl
  | inr y11 =>
    obtain rfl := Option.some.inj hr
    exact hC

/-! 234: TunnelFabricModel.tunnels()I -/
def s234 (μ : mM) (a0 : Nat) : Option Int32 :=
  if (mS μ a0).1 = 9 then (s196 μ a0 0).bind fun q2 => (s196 μ a0 1).bind fun q4 => (s196 μ a0 2).bind fun q6 => some ((q2 + q4) + q6) else none
set_option maxRecDepth 20000 in
theorem t234 {μ : mM} {a0 : Nat} {o : Int32} (hr : s234 μ a0 = some o) : mEv mG 234 [.ref a0] μ (some (.int o)) (μ) := by
  obtain ⟨r, hC⟩ : ∃ r : Option Value × mM, r = (some (.int o), μ) := ⟨_, rfl⟩
  show mGo mG (234, List.drop 0 mC234, [.ref a0], [], μ) (some (.int o), μ)
  rw [← hC]
  unfold s234 at hr
  refine mGo.steps 2 (c' := (234, List.drop 2 mC234, [.ref a0], [.int 0, .ref a0], μ)) rfl ?_
  obtain ⟨h1, hr⟩ := mIf hr
  obtain ⟨q2, h3, hr⟩ := mBi hr
  refine gCall (z := 196) (n := 1) (f := 0) (kind := 1) (a := a0) (As := [.int 0]) (y := 234) (is := List.drop 3 mC234) (L := [.ref a0]) (rest := []) (μ := μ) rfl (by decide) (by decide) ⟨rfl, rfl⟩ rfl h1 (Nat.le_of_ble_eq_true rfl) (Nat.le_of_ble_eq_true rfl) (t196 h3) ?_
  refine mGo.steps 2 (c' := (234, List.drop 5 mC234, [.ref a0], [.int 1, .ref a0, .int q2], μ)) rfl ?_
  obtain ⟨q4, h5, hr⟩ := mBi hr
  refine gCall (z := 196) (n := 1) (f := 0) (kind := 1) (a := a0) (As := [.int 1]) (y := 234) (is := List.drop 6 mC234) (L := [.ref a0]) (rest := [.int q2]) (μ := μ) rfl (by decide) (by decide) ⟨rfl, rfl⟩ rfl h1 (Nat.le_of_ble_eq_true rfl) (Nat.le_of_ble_eq_true rfl) (t196 h5) ?_
  refine mGo.steps 3 (c' := (234, List.drop 9 mC234, [.ref a0], [.int 2, .ref a0, .int (q2 + q4)], μ)) rfl ?_
  obtain ⟨q6, h7, hr⟩ := mBi hr
  refine gCall (z := 196) (n := 1) (f := 0) (kind := 1) (a := a0) (As := [.int 2]) (y := 234) (is := List.drop 10 mC234) (L := [.ref a0]) (rest := [.int (q2 + q4)]) (μ := μ) rfl (by decide) (by decide) ⟨rfl, rfl⟩ rfl h1 (Nat.le_of_ble_eq_true rfl) (Nat.le_of_ble_eq_true rfl) (t196 h7) ?_
  refine mGo.steps 1 (c' := (234, List.drop 11 mC234, [.ref a0], [.int ((q2 + q4) + q6)], μ)) rfl ?_
  obtain rfl := Option.some.inj hr
  rw [show r = _ from hC]
  exact gIret rfl

/-! 235: TunnelFabricModel.count(I)I -/
def s235 (μ : mM) (a0 : Nat) (a1 : Int32) : Option Int32 :=
  if a1 = 0 then (if (mS μ a0).1 = 9 then (s183 μ a0).bind fun q2 => some q2 else none) else (if a1 = 1 then (if (mS μ a0).1 = 9 then (s234 μ a0).bind fun q6 => some q6 else none) else (if a1 = 2 then (if (mS μ a0).1 = 9 then if (mS μ (mP μ a0 0)).1 = 10 ∧ mInb 428 (mS μ (mP μ a0 0)).2 then some (mI μ (mP μ a0 0) (Int32.toNatClampNeg 428)) else none else none) else (if a1 = 3 then (if (mS μ a0).1 = 9 then if (mS μ (mP μ a0 0)).1 = 10 ∧ mInb 429 (mS μ (mP μ a0 0)).2 then some (mI μ (mP μ a0 0) (Int32.toNatClampNeg 429)) else none else none) else (if a1 = 4 then (if (mS μ a0).1 = 9 then if (mS μ (mP μ a0 0)).1 = 10 ∧ mInb 430 (mS μ (mP μ a0 0)).2 then some (mI μ (mP μ a0 0) (Int32.toNatClampNeg 430)) else none else none) else (if a1 = 5 then (if (mS μ a0).1 = 9 then (s233 μ a0).bind fun q19 => some q19 else none) else (if a1 = 6 then (if (mS μ a0).1 = 9 then if (mS μ (mP μ a0 0)).1 = 10 ∧ mInb 431 (mS μ (mP μ a0 0)).2 then some (mI μ (mP μ a0 0) (Int32.toNatClampNeg 431)) else none else none) else (if a1 = 7 then (if (mS μ a0).1 = 9 then some (mI μ a0 6) else none) else (if a1 = 8 then (if (mS μ a0).1 = 9 then if (mS μ (mP μ a0 0)).1 = 10 ∧ mInb 432 (mS μ (mP μ a0 0)).2 then some (mI μ (mP μ a0 0) (Int32.toNatClampNeg 432)) else none else none) else (some (-1))))))))))
set_option maxRecDepth 20000 in
theorem t235 {μ : mM} {a0 : Nat} {a1 : Int32} {o : Int32} (hr : s235 μ a0 a1 = some o) : mEv mG 235 [.ref a0, .int a1] μ (some (.int o)) (μ) := by
  obtain ⟨r, hC⟩ : ∃ r : Option Value × mM, r = (some (.int o), μ) := ⟨_, rfl⟩
  show mGo mG (235, List.drop 0 mC235, [.ref a0, .int a1], [], μ) (some (.int o), μ)
  rw [← hC]
  unfold s235 at hr
  refine mGo.steps 1 (c' := (235, List.drop 1 mC235, [.ref a0, .int a1], [.int a1], μ)) rfl ?_
  refine mGo.steps 1 (c' := (235, mSeek (mTs a1 0 [52, 57, 62, 71, 80, 89, 94, 103, 108] 117) (rC (mG 235)), [.ref a0, .int a1], [], μ)) rfl ?_
  rcases mIte hr with ⟨h4, hr⟩ | ⟨h4, hr⟩
  · refine gTs1 (w := 0) h4 rfl ?_
    refine mGo.steps 1 (c' := (235, List.drop 3 mC235, [.ref a0, .int a1], [.ref a0], μ)) rfl ?_
    obtain ⟨h1, hr⟩ := mIf hr
    obtain ⟨q2, h3, hr⟩ := mBi hr
    refine gCall (z := 183) (n := 0) (f := 0) (kind := 1) (a := a0) (As := []) (y := 235) (is := List.drop 4 mC235) (L := [.ref a0, .int a1]) (rest := []) (μ := μ) rfl (by decide) (by decide) ⟨rfl, rfl⟩ rfl h1 (Nat.le_of_ble_eq_true rfl) (Nat.le_of_ble_eq_true rfl) (t183 h3) ?_
    obtain rfl := Option.some.inj hr
    rw [show r = _ from hC]
    exact gIret rfl
  · refine gTs0 (w := 0) h4 rfl ?_
    rcases mIte hr with ⟨h8, hr⟩ | ⟨h8, hr⟩
    · refine gTs1 (w := 1) h8 rfl ?_
      refine mGo.steps 1 (c' := (235, List.drop 6 mC235, [.ref a0, .int a1], [.ref a0], μ)) rfl ?_
      obtain ⟨h5, hr⟩ := mIf hr
      obtain ⟨q6, h7, hr⟩ := mBi hr
      refine gCall (z := 234) (n := 0) (f := 0) (kind := 1) (a := a0) (As := []) (y := 235) (is := List.drop 7 mC235) (L := [.ref a0, .int a1]) (rest := []) (μ := μ) rfl (by decide) (by decide) ⟨rfl, rfl⟩ rfl h5 (Nat.le_of_ble_eq_true rfl) (Nat.le_of_ble_eq_true rfl) (t234 h7) ?_
      obtain rfl := Option.some.inj hr
      rw [show r = _ from hC]
      exact gIret rfl
    · refine gTs0 (w := 1) h8 rfl ?_
      rcases mIte hr with ⟨h11, hr⟩ | ⟨h11, hr⟩
      · refine gTs1 (w := 2) h11 rfl ?_
        refine mGo.steps 1 (c' := (235, List.drop 9 mC235, [.ref a0, .int a1], [.ref a0], μ)) rfl ?_
        obtain ⟨h9, hr⟩ := mIf hr
        refine gGet (is := List.drop 10 mC235) (v := .ref (mP μ a0 0)) h9 rfl ?_
        refine mGo.steps 1 (c' := (235, List.drop 11 mC235, [.ref a0, .int a1], [.int 428, .ref (mP μ a0 0)], μ)) rfl ?_
        obtain ⟨h10, hr⟩ := mIf hr
        refine gIald (is := List.drop 12 mC235) h10 ?_
        obtain rfl := Option.some.inj hr
        rw [show r = _ from hC]
        exact gIret rfl
      · refine gTs0 (w := 2) h11 rfl ?_
        rcases mIte hr with ⟨h14, hr⟩ | ⟨h14, hr⟩
        · refine gTs1 (w := 3) h14 rfl ?_
          refine mGo.steps 1 (c' := (235, List.drop 14 mC235, [.ref a0, .int a1], [.ref a0], μ)) rfl ?_
          obtain ⟨h12, hr⟩ := mIf hr
          refine gGet (is := List.drop 15 mC235) (v := .ref (mP μ a0 0)) h12 rfl ?_
          refine mGo.steps 1 (c' := (235, List.drop 16 mC235, [.ref a0, .int a1], [.int 429, .ref (mP μ a0 0)], μ)) rfl ?_
          obtain ⟨h13, hr⟩ := mIf hr
          refine gIald (is := List.drop 17 mC235) h13 ?_
          obtain rfl := Option.some.inj hr
          rw [show r = _ from hC]
          exact gIret rfl
        · refine gTs0 (w := 3) h14 rfl ?_
          rcases mIte hr with ⟨h17, hr⟩ | ⟨h17, hr⟩
          · refine gTs1 (w := 4) h17 rfl ?_
            refine mGo.steps 1 (c' := (235, List.drop 19 mC235, [.ref a0, .int a1], [.ref a0], μ)) rfl ?_
            obtain ⟨h15, hr⟩ := mIf hr
            refine gGet (is := List.drop 20 mC235) (v := .ref (mP μ a0 0)) h15 rfl ?_
            refine mGo.steps 1 (c' := (235, List.drop 21 mC235, [.ref a0, .int a1], [.int 430, .ref (mP μ a0 0)], μ)) rfl ?_
            obtain ⟨h16, hr⟩ := mIf hr
            refine gIald (is := List.drop 22 mC235) h16 ?_
            obtain rfl := Option.some.inj hr
            rw [show r = _ from hC]
            exact gIret rfl
          · refine gTs0 (w := 4) h17 rfl ?_
            rcases mIte hr with ⟨h21, hr⟩ | ⟨h21, hr⟩
            · refine gTs1 (w := 5) h21 rfl ?_
              refine mGo.steps 1 (c' := (235, List.drop 24 mC235, [.ref a0, .int a1], [.ref a0], μ)) rfl ?_
              obtain ⟨h18, hr⟩ := mIf hr
              obtain ⟨q19, h20, hr⟩ := mBi hr
              refine gCall (z := 233) (n := 0) (f := 0) (kind := 1) (a := a0) (As := []) (y := 235) (is := List.drop 25 mC235) (L := [.ref a0, .int a1]) (rest := []) (μ := μ) rfl (by decide) (by decide) ⟨rfl, rfl⟩ rfl h18 (Nat.le_of_ble_eq_true rfl) (Nat.le_of_ble_eq_true rfl) (t233 h20) ?_
              obtain rfl := Option.some.inj hr
              rw [show r = _ from hC]
              exact gIret rfl
            · refine gTs0 (w := 5) h21 rfl ?_
              rcases mIte hr with ⟨h24, hr⟩ | ⟨h24, hr⟩
              · refine gTs1 (w := 6) h24 rfl ?_
                refine mGo.steps 1 (c' := (235, List.drop 27 mC235, [.ref a0, .int a1], [.ref a0], μ)) rfl ?_
                obtain ⟨h22, hr⟩ := mIf hr
                refine gGet (is := List.drop 28 mC235) (v := .ref (mP μ a0 0)) h22 rfl ?_
                refine mGo.steps 1 (c' := (235, List.drop 29 mC235, [.ref a0, .int a1], [.int 431, .ref (mP μ a0 0)], μ)) rfl ?_
                obtain ⟨h23, hr⟩ := mIf hr
                refine gIald (is := List.drop 30 mC235) h23 ?_
                obtain rfl := Option.some.inj hr
                rw [show r = _ from hC]
                exact gIret rfl
              · refine gTs0 (w := 6) h24 rfl ?_
                rcases mIte hr with ⟨h26, hr⟩ | ⟨h26, hr⟩
                · refine gTs1 (w := 7) h26 rfl ?_
                  refine mGo.steps 1 (c' := (235, List.drop 32 mC235, [.ref a0, .int a1], [.ref a0], μ)) rfl ?_
                  obtain ⟨h25, hr⟩ := mIf hr
                  refine gGet (is := List.drop 33 mC235) (v := .int (mI μ a0 6)) h25 rfl ?_
                  obtain rfl := Option.some.inj hr
                  rw [show r = _ from hC]
                  exact gIret rfl
                · refine gTs0 (w := 7) h26 rfl ?_
                  rcases mIte hr with ⟨h29, hr⟩ | ⟨h29, hr⟩
                  · refine gTs1 (w := 8) h29 rfl ?_
                    refine mGo.steps 1 (c' := (235, List.drop 35 mC235, [.ref a0, .int a1], [.ref a0], μ)) rfl ?_
                    obtain ⟨h27, hr⟩ := mIf hr
                    refine gGet (is := List.drop 36 mC235) (v := .ref (mP μ a0 0)) h27 rfl ?_
                    refine mGo.steps 1 (c' := (235, List.drop 37 mC235, [.ref a0, .int a1], [.int 432, .ref (mP μ a0 0)], μ)) rfl ?_
                    obtain ⟨h28, hr⟩ := mIf hr
                    refine gIald (is := List.drop 38 mC235) h28 ?_
                    obtain rfl := Option.some.inj hr
                    rw [show r = _ from hC]
                    exact gIret rfl
                  · refine gTs0 (w := 8) h29 rfl ?_
                    refine mGo.steps 1 (c' := (235, List.drop 40 mC235, [.ref a0, .int a1], [.int (-1)], μ)) rfl ?_
                    obtain rfl := Option.some.inj hr
                    rw [show r = _ from hC]
                    exact gIret rfl

/-! 236: TunnelFabricModel.save(I)I -/
def s236L9 (p0 : Nat) (p1 : Int32) (s : Int32 × mM) : Option ((Int32 × mM) ⊕ ((mM) ⊕ (Int32 × mM))) :=
  if 433 ≤ s.1 then (some (.inr (.inl s.2))) else (if (mS s.2 p0).1 = 9 then if (mS s.2 (mP s.2 p0 0)).1 = 10 ∧ mInb s.1 (mS s.2 (mP s.2 p0 0)).2 then if (mS s.2 (mP s.2 p0 2)).1 = 10 ∧ mInb ((433 * p1) + s.1) (mS s.2 (mP s.2 p0 2)).2 then (some (mUI s.2 (mP s.2 p0 2) (Int32.toNatClampNeg ((433 * p1) + s.1)) (mI s.2 (mP s.2 p0 0) (Int32.toNatClampNeg s.1)))).bind fun μ6 => some (.inl (s.1 + 1, μ6)) else none else none else none)
set_option maxRecDepth 20000 in
theorem t236L9 (p0 : Nat) (p1 : Int32) {r : Option Value × mM} (s : Int32 × mM) (o : ((Int32 × mM) ⊕ ((mM) ⊕ (Int32 × mM)))) (hr : s236L9 p0 p1 s = some o) (hC : Sum.elim (fun s' : Int32 × mM => mGo mG (236, List.drop 9 mC236, [.ref p0, .int p1, .int s'.1], [], s'.2) r) (Sum.elim (fun x : mM => ∀ (w2 : Value) (hw2 : mNotL w2 = true), mGo mG (236, List.drop 26 mC236, [.ref p0, .int p1, w2], [], x) r) (fun y : (Int32 × mM) => r = (some (.int y.1), y.2))) o) : mGo mG (236, List.drop 9 mC236, [.ref p0, .int p1, .int s.1], [], s.2) r := by
  unfold s236L9 at hr
  refine mGo.steps 2 (c' := (236, List.drop 11 mC236, [.ref p0, .int p1, .int s.1], [.int 433, .int s.1], s.2)) rfl ?_
  rcases mIte hr with ⟨h7, hr⟩ | ⟨h7, hr⟩
  · refine gBrT (p := 433 ≤ s.1) (y := 236) (is := List.drop 12 mC236) (L := [.ref p0, .int p1, .int s.1]) (st := []) (μ := s.2) (t := 44) rfl h7 ?_
    obtain rfl := Option.some.inj hr
    exact hC (.int s.1) rfl
  · refine gBrF (p := 433 ≤ s.1) (y := 236) (is := List.drop 12 mC236) (L := [.ref p0, .int p1, .int s.1]) (st := []) (μ := s.2) (t := 44) rfl h7 ?_
    refine mGo.steps 1 (c' := (236, List.drop 13 mC236, [.ref p0, .int p1, .int s.1], [.ref p0], s.2)) rfl ?_
    obtain ⟨h3, hr⟩ := mIf hr
    refine gGet (is := List.drop 14 mC236) (v := .ref (mP s.2 p0 2)) h3 rfl ?_
    refine mGo.steps 6 (c' := (236, List.drop 20 mC236, [.ref p0, .int p1, .int s.1], [.ref p0, .int ((433 * p1) + s.1), .ref (mP s.2 p0 2)], s.2)) rfl ?_
    refine gGet (is := List.drop 21 mC236) (v := .ref (mP s.2 p0 0)) h3 rfl ?_
    refine mGo.steps 1 (c' := (236, List.drop 22 mC236, [.ref p0, .int p1, .int s.1], [.int s.1, .ref (mP s.2 p0 0), .int ((433 * p1) + s.1), .ref (mP s.2 p0 2)], s.2)) rfl ?_
    obtain ⟨h4, hr⟩ := mIf hr
    refine gIald (is := List.drop 23 mC236) h4 ?_
    obtain ⟨h5, hr⟩ := mIf hr
    replace hr := mBs hr
    refine gIast (is := List.drop 24 mC236) h5 ?_
    let μ6 : mM := mUI s.2 (mP s.2 p0 2) (Int32.toNatClampNeg ((433 * p1) + s.1)) (mI s.2 (mP s.2 p0 0) (Int32.toNatClampNeg s.1))
    refine mGo.steps 2 (c' := (236, List.drop 9 mC236, [.ref p0, .int p1, .int (s.1 + 1)], [], μ6)) rfl ?_
    obtain rfl := Option.some.inj hr
    exact hC
theorem t236L9l (p0 : Nat) (p1 : Int32) {r : Option Value × mM} (n : Nat) (s : Int32 × mM) (o : (mM) ⊕ (Int32 × mM)) (hr : mLoop (s236L9 p0 p1) n s = some o) (hC : Sum.elim (fun x : mM => ∀ (w2 : Value) (hw2 : mNotL w2 = true), mGo mG (236, List.drop 26 mC236, [.ref p0, .int p1, w2], [], x) r) (fun y : (Int32 × mM) => r = (some (.int y.1), y.2)) o) : mGo mG (236, List.drop 9 mC236, [.ref p0, .int p1, .int s.1], [], s.2) r :=
  mLoop_go (Hd := (fun s' : Int32 × mM => mGo mG (236, List.drop 9 mC236, [.ref p0, .int p1, .int s'.1], [], s'.2) r)) (fun s o hb hC => t236L9 p0 p1 s o hb hC) n s o hr hC
def s236L28 (p0 : Nat) (p1 : Int32) (s : Int32 × mM) : Option ((Int32 × mM) ⊕ ((mM) ⊕ (Int32 × mM))) :=
  if 16 ≤ s.1 then (some (.inr (.inl s.2))) else (if (mS s.2 p0).1 = 9 then if (mS s.2 (mP s.2 p0 1)).1 = 11 ∧ mInb s.1 (mS s.2 (mP s.2 p0 1)).2 then if (mS s.2 (mP s.2 p0 3)).1 = 11 ∧ mInb ((16 * p1) + s.1) (mS s.2 (mP s.2 p0 3)).2 then (some (mUF s.2 (mP s.2 p0 3) (Int32.toNatClampNeg ((16 * p1) + s.1)) (mF s.2 (mP s.2 p0 1) (Int32.toNatClampNeg s.1)))).bind fun μ15 => some (.inl (s.1 + 1, μ15)) else none else none else none)
set_option maxRecDepth 20000 in
theorem t236L28 (p0 : Nat) (p1 : Int32) {r : Option Value × mM} (s : Int32 × mM) (o : ((Int32 × mM) ⊕ ((mM) ⊕ (Int32 × mM)))) (hr : s236L28 p0 p1 s = some o) (hC : Sum.elim (fun s' : Int32 × mM => mGo mG (236, List.drop 28 mC236, [.ref p0, .int p1, .int s'.1], [], s'.2) r) (Sum.elim (fun x : mM => ∀ (w2 : Value) (hw2 : mNotL w2 = true), mGo mG (236, List.drop 45 mC236, [.ref p0, .int p1, w2], [], x) r) (fun y : (Int32 × mM) => r = (some (.int y.1), y.2))) o) : mGo mG (236, List.drop 28 mC236, [.ref p0, .int p1, .int s.1], [], s.2) r := by
  unfold s236L28 at hr
  refine mGo.steps 2 (c' := (236, List.drop 30 mC236, [.ref p0, .int p1, .int s.1], [.int 16, .int s.1], s.2)) rfl ?_
  rcases mIte hr with ⟨h16, hr⟩ | ⟨h16, hr⟩
  · refine gBrT (p := 16 ≤ s.1) (y := 236) (is := List.drop 31 mC236) (L := [.ref p0, .int p1, .int s.1]) (st := []) (μ := s.2) (t := 75) rfl h16 ?_
    obtain rfl := Option.some.inj hr
    exact hC (.int s.1) rfl
  · refine gBrF (p := 16 ≤ s.1) (y := 236) (is := List.drop 31 mC236) (L := [.ref p0, .int p1, .int s.1]) (st := []) (μ := s.2) (t := 75) rfl h16 ?_
    refine mGo.steps 1 (c' := (236, List.drop 32 mC236, [.ref p0, .int p1, .int s.1], [.ref p0], s.2)) rfl ?_
    obtain ⟨h12, hr⟩ := mIf hr
    refine gGet (is := List.drop 33 mC236) (v := .ref (mP s.2 p0 3)) h12 rfl ?_
    refine mGo.steps 6 (c' := (236, List.drop 39 mC236, [.ref p0, .int p1, .int s.1], [.ref p0, .int ((16 * p1) + s.1), .ref (mP s.2 p0 3)], s.2)) rfl ?_
    refine gGet (is := List.drop 40 mC236) (v := .ref (mP s.2 p0 1)) h12 rfl ?_
    refine mGo.steps 1 (c' := (236, List.drop 41 mC236, [.ref p0, .int p1, .int s.1], [.int s.1, .ref (mP s.2 p0 1), .int ((16 * p1) + s.1), .ref (mP s.2 p0 3)], s.2)) rfl ?_
    obtain ⟨h13, hr⟩ := mIf hr
    refine gFald (is := List.drop 42 mC236) h13 ?_
    obtain ⟨h14, hr⟩ := mIf hr
    replace hr := mBs hr
    refine gFast (is := List.drop 43 mC236) h14 ?_
    let μ15 : mM := mUF s.2 (mP s.2 p0 3) (Int32.toNatClampNeg ((16 * p1) + s.1)) (mF s.2 (mP s.2 p0 1) (Int32.toNatClampNeg s.1))
    refine mGo.steps 2 (c' := (236, List.drop 28 mC236, [.ref p0, .int p1, .int (s.1 + 1)], [], μ15)) rfl ?_
    obtain rfl := Option.some.inj hr
    exact hC
theorem t236L28l (p0 : Nat) (p1 : Int32) {r : Option Value × mM} (n : Nat) (s : Int32 × mM) (o : (mM) ⊕ (Int32 × mM)) (hr : mLoop (s236L28 p0 p1) n s = some o) (hC : Sum.elim (fun x : mM => ∀ (w2 : Value) (hw2 : mNotL w2 = true), mGo mG (236, List.drop 45 mC236, [.ref p0, .int p1, w2], [], x) r) (fun y : (Int32 × mM) => r = (some (.int y.1), y.2)) o) : mGo mG (236, List.drop 28 mC236, [.ref p0, .int p1, .int s.1], [], s.2) r :=
  mLoop_go (Hd := (fun s' : Int32 × mM => mGo mG (236, List.drop 28 mC236, [.ref p0, .int p1, .int s'.1], [], s'.2) r)) (fun s o hb hC => t236L28 p0 p1 s o hb hC) n s o hr hC
def s236 (μ : mM) (a0 : Nat) (a1 : Int32) : Option (Int32 × mM) :=
  (s144 μ a1 0 1).bind fun q1 => if ¬ q1 = 0 then ((mLoop (s236L9 a0 a1) 1000 (0, μ)).bind fun o8 => Sum.elim (fun x9 => (mLoop (s236L28 a0 a1) 1000 (0, x9)).bind fun o17 => Sum.elim (fun x18 => if (mS x18 a0).1 = 9 then if (mS x18 (mP x18 a0 4)).1 = 12 ∧ mInb a1 (mS x18 (mP x18 a0 4)).2 then (some (mUI x18 (mP x18 a0 4) (Int32.toNatClampNeg a1) 1)).bind fun μ23 => (s234 μ23 a0).bind fun q24 => some (q24, μ23) else none else none) (fun y19 => some y19) o17) (fun y10 => some y10) o8) else (some ((-1), μ))
set_option maxRecDepth 20000 in
theorem t236 {μ : mM} {a0 : Nat} {a1 : Int32} {o : (Int32 × mM)} (hr : s236 μ a0 a1 = some o) : mEv mG 236 [.ref a0, .int a1] μ (some (.int o.1)) (o.2) := by
  obtain ⟨r, hC⟩ : ∃ r : Option Value × mM, r = (some (.int o.1), o.2) := ⟨_, rfl⟩
  show mGo mG (236, List.drop 0 mC236, [.ref a0, .int a1, .retAddr 0], [], μ) (some (.int o.1), o.2)
  rw [← hC]
  unfold s236 at hr
  refine mGo.steps 3 (c' := (236, List.drop 3 mC236, [.ref a0, .int a1, .retAddr 0], [.int 1, .int 0, .int a1], μ)) rfl ?_
  obtain ⟨q1, h2, hr⟩ := mBi hr
  refine mGo.call (z := 144) (as := [.int a1, .int 0, .int 1]) (y := 236) (is := List.drop 4 mC236) (L := [.ref a0, .int a1, .retAddr 0]) (st := []) (μ := μ) rfl (t144 h2) ?_
  rcases mIte hr with ⟨h26, hr⟩ | ⟨h26, hr⟩
  · refine gBrT (p := ¬ q1 = 0) (y := 236) (is := List.drop 5 mC236) (L := [.ref a0, .int a1, .retAddr 0]) (st := []) (μ := μ) (t := 11) rfl h26 ?_
    refine mGo.steps 2 (c' := (236, List.drop 9 mC236, [.ref a0, .int a1, .int 0], [], μ)) rfl ?_
    obtain ⟨o8, h11, hr⟩ := mBi hr
    refine t236L9l a0 a1 1000 (0, μ) o8 h11 ?_ 
    cases o8 with
    | inl x9 =>
      show ∀ (w2 : Value) (hw2 : mNotL w2 = true), mGo mG (236, List.drop 26 mC236, [.ref a0, .int a1, w2], [], x9) r
      intro w2 hw2
      replace hr : (_) = some _ := hr
      refine mGo.steps 2 (c' := (236, List.drop 28 mC236, [.ref a0, .int a1, .int 0], [], x9)) rfl ?_
      obtain ⟨o17, h20, hr⟩ := mBi hr
      refine t236L28l a0 a1 1000 (0, x9) o17 h20 ?_ 
      cases o17 with
      | inl x18 =>
        show ∀ (w2 : Value) (hw2 : mNotL w2 = true), mGo mG (236, List.drop 45 mC236, [.ref a0, .int a1, w2], [], x18) r
        intro w2 hw2
        replace hr : (_) = some _ := hr
        refine mGo.steps 1 (c' := (236, List.drop 46 mC236, [.ref a0, .int a1, w2], [.ref a0], x18)) rfl ?_
        obtain ⟨h21, hr⟩ := mIf hr
        refine gGet (is := List.drop 47 mC236) (v := .ref (mP x18 a0 4)) h21 rfl ?_
        refine mGo.steps 2 (c' := (236, List.drop 49 mC236, [.ref a0, .int a1, w2], [.int 1, .int a1, .ref (mP x18 a0 4)], x18)) rfl ?_
        obtain ⟨h22, hr⟩ := mIf hr
        replace hr := mBs hr
        refine gBast (is := List.drop 50 mC236) h22 (by decide) ?_
        let μ23 : mM := mUI x18 (mP x18 a0 4) (Int32.toNatClampNeg a1) 1
        refine mGo.steps 1 (c' := (236, List.drop 51 mC236, [.ref a0, .int a1, w2], [.ref a0], μ23)) rfl ?_
        obtain ⟨q24, h25, hr⟩ := mBi hr
        refine gCall (z := 234) (n := 0) (f := 0) (kind := 1) (a := a0) (As := []) (y := 236) (is := List.drop 52 mC236) (L := [.ref a0, .int a1, w2]) (rest := []) (μ := μ23) rfl (by decide) (by decide) ⟨rfl, rfl⟩ rfl h21 (Nat.le_of_ble_eq_true rfl) (Nat.le_of_ble_eq_true rfl) (t234 h25) ?_
        obtain rfl := Option.some.inj hr
        rw [show r = _ from hC]
        exact gIret rfl
      | inr y19 =>
        obtain rfl := Option.some.inj hr
        exact hC
    | inr y10 =>
      obtain rfl := Option.some.inj hr
      exact hC
  · refine gBrF (p := ¬ q1 = 0) (y := 236) (is := List.drop 5 mC236) (L := [.ref a0, .int a1, .retAddr 0]) (st := []) (μ := μ) (t := 11) rfl h26 ?_
    refine mGo.steps 1 (c' := (236, List.drop 6 mC236, [.ref a0, .int a1, .retAddr 0], [.int (-1)], μ)) rfl ?_
    obtain rfl := Option.some.inj hr
    rw [show r = _ from hC]
    exact gIret rfl

/-! 237: TunnelFabricModel.restore(I)I -/
def s237L16 (p0 : Nat) (p1 : Int32) (s : Int32 × mM) : Option ((Int32 × mM) ⊕ ((mM) ⊕ (Int32 × mM))) :=
  if 433 ≤ s.1 then (some (.inr (.inl s.2))) else (if (mS s.2 p0).1 = 9 then if (mS s.2 (mP s.2 p0 2)).1 = 10 ∧ mInb ((433 * p1) + s.1) (mS s.2 (mP s.2 p0 2)).2 then if (mS s.2 (mP s.2 p0 0)).1 = 10 ∧ mInb s.1 (mS s.2 (mP s.2 p0 0)).2 then (some (mUI s.2 (mP s.2 p0 0) (Int32.toNatClampNeg s.1) (mI s.2 (mP s.2 p0 2) (Int32.toNatClampNeg ((433 * p1) + s.1))))).bind fun μ8 => some (.inl (s.1 + 1, μ8)) else none else none else none)
set_option maxRecDepth 20000 in
theorem t237L16 (p0 : Nat) (p1 : Int32) {r : Option Value × mM} (s : Int32 × mM) (o : ((Int32 × mM) ⊕ ((mM) ⊕ (Int32 × mM)))) (hr : s237L16 p0 p1 s = some o) (hC : Sum.elim (fun s' : Int32 × mM => mGo mG (237, List.drop 16 mC237, [.ref p0, .int p1, .int s'.1], [], s'.2) r) (Sum.elim (fun x : mM => ∀ (w2 : Value) (hw2 : mNotL w2 = true), mGo mG (237, List.drop 33 mC237, [.ref p0, .int p1, w2], [], x) r) (fun y : (Int32 × mM) => r = (some (.int y.1), y.2))) o) : mGo mG (237, List.drop 16 mC237, [.ref p0, .int p1, .int s.1], [], s.2) r := by
  unfold s237L16 at hr
  refine mGo.steps 2 (c' := (237, List.drop 18 mC237, [.ref p0, .int p1, .int s.1], [.int 433, .int s.1], s.2)) rfl ?_
  rcases mIte hr with ⟨h9, hr⟩ | ⟨h9, hr⟩
  · refine gBrT (p := 433 ≤ s.1) (y := 237) (is := List.drop 19 mC237) (L := [.ref p0, .int p1, .int s.1]) (st := []) (μ := s.2) (t := 56) rfl h9 ?_
    obtain rfl := Option.some.inj hr
    exact hC (.int s.1) rfl
  · refine gBrF (p := 433 ≤ s.1) (y := 237) (is := List.drop 19 mC237) (L := [.ref p0, .int p1, .int s.1]) (st := []) (μ := s.2) (t := 56) rfl h9 ?_
    refine mGo.steps 1 (c' := (237, List.drop 20 mC237, [.ref p0, .int p1, .int s.1], [.ref p0], s.2)) rfl ?_
    obtain ⟨h5, hr⟩ := mIf hr
    refine gGet (is := List.drop 21 mC237) (v := .ref (mP s.2 p0 0)) h5 rfl ?_
    refine mGo.steps 2 (c' := (237, List.drop 23 mC237, [.ref p0, .int p1, .int s.1], [.ref p0, .int s.1, .ref (mP s.2 p0 0)], s.2)) rfl ?_
    refine gGet (is := List.drop 24 mC237) (v := .ref (mP s.2 p0 2)) h5 rfl ?_
    refine mGo.steps 5 (c' := (237, List.drop 29 mC237, [.ref p0, .int p1, .int s.1], [.int ((433 * p1) + s.1), .ref (mP s.2 p0 2), .int s.1, .ref (mP s.2 p0 0)], s.2)) rfl ?_
    obtain ⟨h6, hr⟩ := mIf hr
    refine gIald (is := List.drop 30 mC237) h6 ?_
    obtain ⟨h7, hr⟩ := mIf hr
    replace hr := mBs hr
    refine gIast (is := List.drop 31 mC237) h7 ?_
    let μ8 : mM := mUI s.2 (mP s.2 p0 0) (Int32.toNatClampNeg s.1) (mI s.2 (mP s.2 p0 2) (Int32.toNatClampNeg ((433 * p1) + s.1)))
    refine mGo.steps 2 (c' := (237, List.drop 16 mC237, [.ref p0, .int p1, .int (s.1 + 1)], [], μ8)) rfl ?_
    obtain rfl := Option.some.inj hr
    exact hC
theorem t237L16l (p0 : Nat) (p1 : Int32) {r : Option Value × mM} (n : Nat) (s : Int32 × mM) (o : (mM) ⊕ (Int32 × mM)) (hr : mLoop (s237L16 p0 p1) n s = some o) (hC : Sum.elim (fun x : mM => ∀ (w2 : Value) (hw2 : mNotL w2 = true), mGo mG (237, List.drop 33 mC237, [.ref p0, .int p1, w2], [], x) r) (fun y : (Int32 × mM) => r = (some (.int y.1), y.2)) o) : mGo mG (237, List.drop 16 mC237, [.ref p0, .int p1, .int s.1], [], s.2) r :=
  mLoop_go (Hd := (fun s' : Int32 × mM => mGo mG (237, List.drop 16 mC237, [.ref p0, .int p1, .int s'.1], [], s'.2) r)) (fun s o hb hC => t237L16 p0 p1 s o hb hC) n s o hr hC
def s237L35 (p0 : Nat) (p1 : Int32) (s : Int32 × mM) : Option ((Int32 × mM) ⊕ ((mM) ⊕ (Int32 × mM))) :=
  if 16 ≤ s.1 then (some (.inr (.inl s.2))) else (if (mS s.2 p0).1 = 9 then if (mS s.2 (mP s.2 p0 3)).1 = 11 ∧ mInb ((16 * p1) + s.1) (mS s.2 (mP s.2 p0 3)).2 then if (mS s.2 (mP s.2 p0 1)).1 = 11 ∧ mInb s.1 (mS s.2 (mP s.2 p0 1)).2 then (some (mUF s.2 (mP s.2 p0 1) (Int32.toNatClampNeg s.1) (mF s.2 (mP s.2 p0 3) (Int32.toNatClampNeg ((16 * p1) + s.1))))).bind fun μ17 => some (.inl (s.1 + 1, μ17)) else none else none else none)
set_option maxRecDepth 20000 in
theorem t237L35 (p0 : Nat) (p1 : Int32) {r : Option Value × mM} (s : Int32 × mM) (o : ((Int32 × mM) ⊕ ((mM) ⊕ (Int32 × mM)))) (hr : s237L35 p0 p1 s = some o) (hC : Sum.elim (fun s' : Int32 × mM => mGo mG (237, List.drop 35 mC237, [.ref p0, .int p1, .int s'.1], [], s'.2) r) (Sum.elim (fun x : mM => ∀ (w1 : Value) (hw1 : mNotL w1 = true) (w2 : Value) (hw2 : mNotL w2 = true), mGo mG (237, List.drop 52 mC237, [.ref p0, w1, w2], [], x) r) (fun y : (Int32 × mM) => r = (some (.int y.1), y.2))) o) : mGo mG (237, List.drop 35 mC237, [.ref p0, .int p1, .int s.1], [], s.2) r := by
  unfold s237L35 at hr
  refine mGo.steps 2 (c' := (237, List.drop 37 mC237, [.ref p0, .int p1, .int s.1], [.int 16, .int s.1], s.2)) rfl ?_
  rcases mIte hr with ⟨h18, hr⟩ | ⟨h18, hr⟩
  · refine gBrT (p := 16 ≤ s.1) (y := 237) (is := List.drop 38 mC237) (L := [.ref p0, .int p1, .int s.1]) (st := []) (μ := s.2) (t := 87) rfl h18 ?_
    obtain rfl := Option.some.inj hr
    exact hC (.int p1) rfl (.int s.1) rfl
  · refine gBrF (p := 16 ≤ s.1) (y := 237) (is := List.drop 38 mC237) (L := [.ref p0, .int p1, .int s.1]) (st := []) (μ := s.2) (t := 87) rfl h18 ?_
    refine mGo.steps 1 (c' := (237, List.drop 39 mC237, [.ref p0, .int p1, .int s.1], [.ref p0], s.2)) rfl ?_
    obtain ⟨h14, hr⟩ := mIf hr
    refine gGet (is := List.drop 40 mC237) (v := .ref (mP s.2 p0 1)) h14 rfl ?_
    refine mGo.steps 2 (c' := (237, List.drop 42 mC237, [.ref p0, .int p1, .int s.1], [.ref p0, .int s.1, .ref (mP s.2 p0 1)], s.2)) rfl ?_
    refine gGet (is := List.drop 43 mC237) (v := .ref (mP s.2 p0 3)) h14 rfl ?_
    refine mGo.steps 5 (c' := (237, List.drop 48 mC237, [.ref p0, .int p1, .int s.1], [.int ((16 * p1) + s.1), .ref (mP s.2 p0 3), .int s.1, .ref (mP s.2 p0 1)], s.2)) rfl ?_
    obtain ⟨h15, hr⟩ := mIf hr
    refine gFald (is := List.drop 49 mC237) h15 ?_
    obtain ⟨h16, hr⟩ := mIf hr
    replace hr := mBs hr
    refine gFast (is := List.drop 50 mC237) h16 ?_
    let μ17 : mM := mUF s.2 (mP s.2 p0 1) (Int32.toNatClampNeg s.1) (mF s.2 (mP s.2 p0 3) (Int32.toNatClampNeg ((16 * p1) + s.1)))
    refine mGo.steps 2 (c' := (237, List.drop 35 mC237, [.ref p0, .int p1, .int (s.1 + 1)], [], μ17)) rfl ?_
    obtain rfl := Option.some.inj hr
    exact hC
theorem t237L35l (p0 : Nat) (p1 : Int32) {r : Option Value × mM} (n : Nat) (s : Int32 × mM) (o : (mM) ⊕ (Int32 × mM)) (hr : mLoop (s237L35 p0 p1) n s = some o) (hC : Sum.elim (fun x : mM => ∀ (w1 : Value) (hw1 : mNotL w1 = true) (w2 : Value) (hw2 : mNotL w2 = true), mGo mG (237, List.drop 52 mC237, [.ref p0, w1, w2], [], x) r) (fun y : (Int32 × mM) => r = (some (.int y.1), y.2)) o) : mGo mG (237, List.drop 35 mC237, [.ref p0, .int p1, .int s.1], [], s.2) r :=
  mLoop_go (Hd := (fun s' : Int32 × mM => mGo mG (237, List.drop 35 mC237, [.ref p0, .int p1, .int s'.1], [], s'.2) r)) (fun s o hb hC => t237L35 p0 p1 s o hb hC) n s o hr hC
def s237 (μ : mM) (a0 : Nat) (a1 : Int32) : Option (Int32 × mM) :=
  (s144 μ a1 0 1).bind fun q1 => if ¬ q1 = 0 then (if (mS μ a0).1 = 9 then if (mS μ (mP μ a0 4)).1 = 12 ∧ mInb a1 (mS μ (mP μ a0 4)).2 then if ¬ (mI μ (mP μ a0 4) (Int32.toNatClampNeg a1)) = 0 then ((mLoop (s237L16 a0 a1) 1000 (0, μ)).bind fun o10 => Sum.elim (fun x11 => (mLoop (s237L35 a0 a1) 1000 (0, x11)).bind fun o19 => Sum.elim (fun x20 => if (mS x20 a0).1 = 9 then (s234 x20 a0).bind fun q24 => some (q24, x20) else none) (fun y21 => some y21) o19) (fun y12 => some y12) o10) else (some ((-8), μ)) else none else none) else (some ((-1), μ))
set_option maxRecDepth 20000 in
theorem t237 {μ : mM} {a0 : Nat} {a1 : Int32} {o : (Int32 × mM)} (hr : s237 μ a0 a1 = some o) : mEv mG 237 [.ref a0, .int a1] μ (some (.int o.1)) (o.2) := by
  obtain ⟨r, hC⟩ : ∃ r : Option Value × mM, r = (some (.int o.1), o.2) := ⟨_, rfl⟩
  show mGo mG (237, List.drop 0 mC237, [.ref a0, .int a1, .retAddr 0], [], μ) (some (.int o.1), o.2)
  rw [← hC]
  unfold s237 at hr
  refine mGo.steps 3 (c' := (237, List.drop 3 mC237, [.ref a0, .int a1, .retAddr 0], [.int 1, .int 0, .int a1], μ)) rfl ?_
  obtain ⟨q1, h2, hr⟩ := mBi hr
  refine mGo.call (z := 144) (as := [.int a1, .int 0, .int 1]) (y := 237) (is := List.drop 4 mC237) (L := [.ref a0, .int a1, .retAddr 0]) (st := []) (μ := μ) rfl (t144 h2) ?_
  rcases mIte hr with ⟨h27, hr⟩ | ⟨h27, hr⟩
  · refine gBrT (p := ¬ q1 = 0) (y := 237) (is := List.drop 5 mC237) (L := [.ref a0, .int a1, .retAddr 0]) (st := []) (μ := μ) (t := 11) rfl h27 ?_
    refine mGo.steps 1 (c' := (237, List.drop 8 mC237, [.ref a0, .int a1, .retAddr 0], [.ref a0], μ)) rfl ?_
    obtain ⟨h3, hr⟩ := mIf hr
    refine gGet (is := List.drop 9 mC237) (v := .ref (mP μ a0 4)) h3 rfl ?_
    refine mGo.steps 1 (c' := (237, List.drop 10 mC237, [.ref a0, .int a1, .retAddr 0], [.int a1, .ref (mP μ a0 4)], μ)) rfl ?_
    obtain ⟨h4, hr⟩ := mIf hr
    refine gBald (is := List.drop 11 mC237) h4 ?_
    rcases mIte hr with ⟨h26, hr⟩ | ⟨h26, hr⟩
    · refine gBrT (p := ¬ (mI μ (mP μ a0 4) (Int32.toNatClampNeg a1)) = 0) (y := 237) (is := List.drop 12 mC237) (L := [.ref a0, .int a1, .retAddr 0]) (st := []) (μ := μ) (t := 23) rfl h26 ?_
      refine mGo.steps 2 (c' := (237, List.drop 16 mC237, [.ref a0, .int a1, .int 0], [], μ)) rfl ?_
      obtain ⟨o10, h13, hr⟩ := mBi hr
      refine t237L16l a0 a1 1000 (0, μ) o10 h13 ?_ 
      cases o10 with
      | inl x11 =>
        show ∀ (w2 : Value) (hw2 : mNotL w2 = true), mGo mG (237, List.drop 33 mC237, [.ref a0, .int a1, w2], [], x11) r
        intro w2 hw2
        replace hr : (_) = some _ := hr
        refine mGo.steps 2 (c' := (237, List.drop 35 mC237, [.ref a0, .int a1, .int 0], [], x11)) rfl ?_
        obtain ⟨o19, h22, hr⟩ := mBi hr
        refine t237L35l a0 a1 1000 (0, x11) o19 h22 ?_ 
        cases o19 with
        | inl x20 =>
          show ∀ (w1 : Value) (hw1 : mNotL w1 = true) (w2 : Value) (hw2 : mNotL w2 = true), mGo mG (237, List.drop 52 mC237, [.ref a0, w1, w2], [], x20) r
          intro w1 hw1 w2 hw2
          replace hr : (_) = some _ := hr
          refine mGo.steps 1 (c' := (237, List.drop 53 mC237, [.ref a0, w1, w2], [.ref a0], x20)) rfl ?_
          obtain ⟨h23, hr⟩ := mIf hr
          obtain ⟨q24, h25, hr⟩ := mBi hr
          refine gCall (z := 234) (n := 0) (f := 0) (kind := 1) (a := a0) (As := []) (y := 237) (is := List.drop 54 mC237) (L := [.ref a0, w1, w2]) (rest := []) (μ := x20) rfl (by decide) (by decide) ⟨rfl, rfl⟩ rfl h23 (Nat.le_of_ble_eq_true rfl) (Nat.le_of_ble_eq_true rfl) (t234 h25) ?_
          obtain rfl := Option.some.inj hr
          rw [show r = _ from hC]
          exact gIret rfl
        | inr y21 =>
          obtain rfl := Option.some.inj hr
          exact hC
      | inr y12 =>
        obtain rfl := Option.some.inj hr
        exact hC
    · refine gBrF (p := ¬ (mI μ (mP μ a0 4) (Int32.toNatClampNeg a1)) = 0) (y := 237) (is := List.drop 12 mC237) (L := [.ref a0, .int a1, .retAddr 0]) (st := []) (μ := μ) (t := 23) rfl h26 ?_
      refine mGo.steps 1 (c' := (237, List.drop 13 mC237, [.ref a0, .int a1, .retAddr 0], [.int (-8)], μ)) rfl ?_
      obtain rfl := Option.some.inj hr
      rw [show r = _ from hC]
      exact gIret rfl
  · refine gBrF (p := ¬ q1 = 0) (y := 237) (is := List.drop 5 mC237) (L := [.ref a0, .int a1, .retAddr 0]) (st := []) (μ := μ) (t := 11) rfl h27 ?_
    refine mGo.steps 1 (c' := (237, List.drop 6 mC237, [.ref a0, .int a1, .retAddr 0], [.int (-1)], μ)) rfl ?_
    obtain rfl := Option.some.inj hr
    rw [show r = _ from hC]
    exact gIret rfl

/-! 238: TunnelFabricModel.mixes(I)V -/
def s238 (μ : mM) (a0 : Nat) (a1 : Int32) : Option mM :=
  if (mS μ a0).1 = 9 then (some (mUJ μ a0 20 (((Int64.ofNat 31) * (mJ μ a0 20)) + (Int32.toInt64 a1)))).bind fun μ2 => some μ2 else none
set_option maxRecDepth 20000 in
theorem t238 {μ : mM} {a0 : Nat} {a1 : Int32} {o : mM} (hr : s238 μ a0 a1 = some o) : mEv mG 238 [.ref a0, .int a1] μ (none) (o) := by
  obtain ⟨r, hC⟩ : ∃ r : Option Value × mM, r = (none, o) := ⟨_, rfl⟩
  show mGo mG (238, List.drop 0 mC238, [.ref a0, .int a1], [], μ) (none, o)
  rw [← hC]
  unfold s238 at hr
  refine mGo.steps 3 (c' := (238, List.drop 3 mC238, [.ref a0, .int a1], [.ref a0, .long (Int64.ofNat 31), .ref a0], μ)) rfl ?_
  obtain ⟨h1, hr⟩ := mIf hr
  refine gGet (is := List.drop 4 mC238) (v := .long (mJ μ a0 20)) h1 rfl ?_
  refine mGo.steps 4 (c' := (238, List.drop 8 mC238, [.ref a0, .int a1], [.long (((Int64.ofNat 31) * (mJ μ a0 20)) + (Int32.toInt64 a1)), .ref a0], μ)) rfl ?_
  replace hr := mBs hr
  refine gPut (is := List.drop 9 mC238) (μ' := mUJ μ a0 20 (((Int64.ofNat 31) * (mJ μ a0 20)) + (Int32.toInt64 a1))) h1 rfl ?_
  let μ2 : mM := mUJ μ a0 20 (((Int64.ofNat 31) * (mJ μ a0 20)) + (Int32.toInt64 a1))
  obtain rfl := Option.some.inj hr
  rw [show r = _ from hC]
  exact gVret rfl

/-! 239: TunnelFabricModel.mixesRouter(I)V -/
def s239L2 (p0 : Nat) (p1 : Int32) (s : Int32 × mM) : Option ((Int32 × mM) ⊕ ((mM) ⊕ mM)) :=
  if 6 ≤ s.1 then (some (.inr (.inl s.2))) else (if (mS s.2 p0).1 = 9 then (s188 s.2 p0 p1 s.1).bind fun q2 => (s238 s.2 p0 q2).bind fun q4 => some (.inl (s.1 + 1, q4)) else none)
set_option maxRecDepth 20000 in
theorem t239L2 (p0 : Nat) (p1 : Int32) {r : Option Value × mM} (s : Int32 × mM) (o : ((Int32 × mM) ⊕ ((mM) ⊕ mM))) (hr : s239L2 p0 p1 s = some o) (hC : Sum.elim (fun s' : Int32 × mM => mGo mG (239, List.drop 2 mC239, [.ref p0, .int p1, .int s'.1], [], s'.2) r) (Sum.elim (fun x : mM => ∀ (w2 : Value) (hw2 : mNotL w2 = true), mGo mG (239, List.drop 13 mC239, [.ref p0, .int p1, w2], [], x) r) (fun y : mM => r = (none, y))) o) : mGo mG (239, List.drop 2 mC239, [.ref p0, .int p1, .int s.1], [], s.2) r := by
  unfold s239L2 at hr
  refine mGo.steps 2 (c' := (239, List.drop 4 mC239, [.ref p0, .int p1, .int s.1], [.int 6, .int s.1], s.2)) rfl ?_
  rcases mIte hr with ⟨h6, hr⟩ | ⟨h6, hr⟩
  · refine gBrT (p := 6 ≤ s.1) (y := 239) (is := List.drop 5 mC239) (L := [.ref p0, .int p1, .int s.1]) (st := []) (μ := s.2) (t := 24) rfl h6 ?_
    obtain rfl := Option.some.inj hr
    exact hC (.int s.1) rfl
  · refine gBrF (p := 6 ≤ s.1) (y := 239) (is := List.drop 5 mC239) (L := [.ref p0, .int p1, .int s.1]) (st := []) (μ := s.2) (t := 24) rfl h6 ?_
    refine mGo.steps 4 (c' := (239, List.drop 9 mC239, [.ref p0, .int p1, .int s.1], [.int s.1, .int p1, .ref p0, .ref p0], s.2)) rfl ?_
    obtain ⟨h1, hr⟩ := mIf hr
    obtain ⟨q2, h3, hr⟩ := mBi hr
    refine gCall (z := 188) (n := 2) (f := 0) (kind := 1) (a := p0) (As := [.int p1, .int s.1]) (y := 239) (is := List.drop 10 mC239) (L := [.ref p0, .int p1, .int s.1]) (rest := [.ref p0]) (μ := s.2) rfl (by decide) (by decide) ⟨rfl, rfl⟩ rfl h1 (Nat.le_of_ble_eq_true rfl) (Nat.le_of_ble_eq_true rfl) (t188 h3) ?_
    obtain ⟨q4, h5, hr⟩ := mBi hr
    refine gCall (z := 238) (n := 1) (f := 0) (kind := 1) (a := p0) (As := [.int q2]) (y := 239) (is := List.drop 11 mC239) (L := [.ref p0, .int p1, .int s.1]) (rest := []) (μ := s.2) rfl (by decide) (by decide) ⟨rfl, rfl⟩ rfl h1 (Nat.le_of_ble_eq_true rfl) (Nat.le_of_ble_eq_true rfl) (t238 h5) ?_
    refine mGo.steps 2 (c' := (239, List.drop 2 mC239, [.ref p0, .int p1, .int (s.1 + 1)], [], q4)) rfl ?_
    obtain rfl := Option.some.inj hr
    exact hC
theorem t239L2l (p0 : Nat) (p1 : Int32) {r : Option Value × mM} (n : Nat) (s : Int32 × mM) (o : (mM) ⊕ mM) (hr : mLoop (s239L2 p0 p1) n s = some o) (hC : Sum.elim (fun x : mM => ∀ (w2 : Value) (hw2 : mNotL w2 = true), mGo mG (239, List.drop 13 mC239, [.ref p0, .int p1, w2], [], x) r) (fun y : mM => r = (none, y)) o) : mGo mG (239, List.drop 2 mC239, [.ref p0, .int p1, .int s.1], [], s.2) r :=
  mLoop_go (Hd := (fun s' : Int32 × mM => mGo mG (239, List.drop 2 mC239, [.ref p0, .int p1, .int s'.1], [], s'.2) r)) (fun s o hb hC => t239L2 p0 p1 s o hb hC) n s o hr hC
def s239L15 (p0 : Nat) (p1 : Int32) (s : Int32 × mM) : Option ((Int32 × mM) ⊕ ((mM) ⊕ mM)) :=
  if 7 ≤ s.1 then (some (.inr (.inl s.2))) else (if (mS s.2 p0).1 = 9 then (s190 s.2 p0 p1 s.1).bind fun q12 => (s238 s.2 p0 q12).bind fun q14 => some (.inl (s.1 + 1, q14)) else none)
set_option maxRecDepth 20000 in
theorem t239L15 (p0 : Nat) (p1 : Int32) {r : Option Value × mM} (s : Int32 × mM) (o : ((Int32 × mM) ⊕ ((mM) ⊕ mM))) (hr : s239L15 p0 p1 s = some o) (hC : Sum.elim (fun s' : Int32 × mM => mGo mG (239, List.drop 15 mC239, [.ref p0, .int p1, .int s'.1], [], s'.2) r) (Sum.elim (fun x : mM => ∀ (w2 : Value) (hw2 : mNotL w2 = true), mGo mG (239, List.drop 26 mC239, [.ref p0, .int p1, w2], [], x) r) (fun y : mM => r = (none, y))) o) : mGo mG (239, List.drop 15 mC239, [.ref p0, .int p1, .int s.1], [], s.2) r := by
  unfold s239L15 at hr
  refine mGo.steps 2 (c' := (239, List.drop 17 mC239, [.ref p0, .int p1, .int s.1], [.int 7, .int s.1], s.2)) rfl ?_
  rcases mIte hr with ⟨h16, hr⟩ | ⟨h16, hr⟩
  · refine gBrT (p := 7 ≤ s.1) (y := 239) (is := List.drop 18 mC239) (L := [.ref p0, .int p1, .int s.1]) (st := []) (μ := s.2) (t := 48) rfl h16 ?_
    obtain rfl := Option.some.inj hr
    exact hC (.int s.1) rfl
  · refine gBrF (p := 7 ≤ s.1) (y := 239) (is := List.drop 18 mC239) (L := [.ref p0, .int p1, .int s.1]) (st := []) (μ := s.2) (t := 48) rfl h16 ?_
    refine mGo.steps 4 (c' := (239, List.drop 22 mC239, [.ref p0, .int p1, .int s.1], [.int s.1, .int p1, .ref p0, .ref p0], s.2)) rfl ?_
    obtain ⟨h11, hr⟩ := mIf hr
    obtain ⟨q12, h13, hr⟩ := mBi hr
    refine gCall (z := 190) (n := 2) (f := 0) (kind := 1) (a := p0) (As := [.int p1, .int s.1]) (y := 239) (is := List.drop 23 mC239) (L := [.ref p0, .int p1, .int s.1]) (rest := [.ref p0]) (μ := s.2) rfl (by decide) (by decide) ⟨rfl, rfl⟩ rfl h11 (Nat.le_of_ble_eq_true rfl) (Nat.le_of_ble_eq_true rfl) (t190 h13) ?_
    obtain ⟨q14, h15, hr⟩ := mBi hr
    refine gCall (z := 238) (n := 1) (f := 0) (kind := 1) (a := p0) (As := [.int q12]) (y := 239) (is := List.drop 24 mC239) (L := [.ref p0, .int p1, .int s.1]) (rest := []) (μ := s.2) rfl (by decide) (by decide) ⟨rfl, rfl⟩ rfl h11 (Nat.le_of_ble_eq_true rfl) (Nat.le_of_ble_eq_true rfl) (t238 h15) ?_
    refine mGo.steps 2 (c' := (239, List.drop 15 mC239, [.ref p0, .int p1, .int (s.1 + 1)], [], q14)) rfl ?_
    obtain rfl := Option.some.inj hr
    exact hC
theorem t239L15l (p0 : Nat) (p1 : Int32) {r : Option Value × mM} (n : Nat) (s : Int32 × mM) (o : (mM) ⊕ mM) (hr : mLoop (s239L15 p0 p1) n s = some o) (hC : Sum.elim (fun x : mM => ∀ (w2 : Value) (hw2 : mNotL w2 = true), mGo mG (239, List.drop 26 mC239, [.ref p0, .int p1, w2], [], x) r) (fun y : mM => r = (none, y)) o) : mGo mG (239, List.drop 15 mC239, [.ref p0, .int p1, .int s.1], [], s.2) r :=
  mLoop_go (Hd := (fun s' : Int32 × mM => mGo mG (239, List.drop 15 mC239, [.ref p0, .int p1, .int s'.1], [], s'.2) r)) (fun s o hb hC => t239L15 p0 p1 s o hb hC) n s o hr hC
def s239L28 (p0 : Nat) (p1 : Int32) (s : Int32 × mM) : Option ((Int32 × mM) ⊕ ((mM) ⊕ mM)) :=
  if 2 ≤ s.1 then (some (.inr (.inl s.2))) else (if (mS s.2 p0).1 = 9 then (s192 s.2 p0 p1 s.1).bind fun q22 => (s238 s.2 p0 q22).bind fun q24 => if (mS q24 p0).1 = 9 then (s193 q24 p0 p1 s.1).bind fun q27 => (s238 q24 p0 q27).bind fun q29 => if (mS q29 p0).1 = 9 then (s195 q29 p0 p1 s.1).bind fun q32 => (s238 q29 p0 q32).bind fun q34 => some (.inl (s.1 + 1, q34)) else none else none else none)
set_option maxRecDepth 20000 in
theorem t239L28 (p0 : Nat) (p1 : Int32) {r : Option Value × mM} (s : Int32 × mM) (o : ((Int32 × mM) ⊕ ((mM) ⊕ mM))) (hr : s239L28 p0 p1 s = some o) (hC : Sum.elim (fun s' : Int32 × mM => mGo mG (239, List.drop 28 mC239, [.ref p0, .int p1, .int s'.1], [], s'.2) r) (Sum.elim (fun x : mM => ∀ (w0 : Value) (hw0 : mNotL w0 = true) (w1 : Value) (hw1 : mNotL w1 = true) (w2 : Value) (hw2 : mNotL w2 = true), mGo mG (239, List.drop 51 mC239, [w0, w1, w2], [], x) r) (fun y : mM => r = (none, y))) o) : mGo mG (239, List.drop 28 mC239, [.ref p0, .int p1, .int s.1], [], s.2) r := by
  unfold s239L28 at hr
  refine mGo.steps 2 (c' := (239, List.drop 30 mC239, [.ref p0, .int p1, .int s.1], [.int 2, .int s.1], s.2)) rfl ?_
  rcases mIte hr with ⟨h36, hr⟩ | ⟨h36, hr⟩
  · refine gBrT (p := 2 ≤ s.1) (y := 239) (is := List.drop 31 mC239) (L := [.ref p0, .int p1, .int s.1]) (st := []) (μ := s.2) (t := 91) rfl h36 ?_
    obtain rfl := Option.some.inj hr
    exact hC (.ref p0) rfl (.int p1) rfl (.int s.1) rfl
  · refine gBrF (p := 2 ≤ s.1) (y := 239) (is := List.drop 31 mC239) (L := [.ref p0, .int p1, .int s.1]) (st := []) (μ := s.2) (t := 91) rfl h36 ?_
    refine mGo.steps 4 (c' := (239, List.drop 35 mC239, [.ref p0, .int p1, .int s.1], [.int s.1, .int p1, .ref p0, .ref p0], s.2)) rfl ?_
    obtain ⟨h21, hr⟩ := mIf hr
    obtain ⟨q22, h23, hr⟩ := mBi hr
    refine gCall (z := 192) (n := 2) (f := 0) (kind := 1) (a := p0) (As := [.int p1, .int s.1]) (y := 239) (is := List.drop 36 mC239) (L := [.ref p0, .int p1, .int s.1]) (rest := [.ref p0]) (μ := s.2) rfl (by decide) (by decide) ⟨rfl, rfl⟩ rfl h21 (Nat.le_of_ble_eq_true rfl) (Nat.le_of_ble_eq_true rfl) (t192 h23) ?_
    obtain ⟨q24, h25, hr⟩ := mBi hr
    refine gCall (z := 238) (n := 1) (f := 0) (kind := 1) (a := p0) (As := [.int q22]) (y := 239) (is := List.drop 37 mC239) (L := [.ref p0, .int p1, .int s.1]) (rest := []) (μ := s.2) rfl (by decide) (by decide) ⟨rfl, rfl⟩ rfl h21 (Nat.le_of_ble_eq_true rfl) (Nat.le_of_ble_eq_true rfl) (t238 h25) ?_
    refine mGo.steps 4 (c' := (239, List.drop 41 mC239, [.ref p0, .int p1, .int s.1], [.int s.1, .int p1, .ref p0, .ref p0], q24)) rfl ?_
    obtain ⟨h26, hr⟩ := mIf hr
    obtain ⟨q27, h28, hr⟩ := mBi hr
    refine gCall (z := 193) (n := 2) (f := 0) (kind := 1) (a := p0) (As := [.int p1, .int s.1]) (y := 239) (is := List.drop 42 mC239) (L := [.ref p0, .int p1, .int s.1]) (rest := [.ref p0]) (μ := q24) rfl (by decide) (by decide) ⟨rfl, rfl⟩ rfl h26 (Nat.le_of_ble_eq_true rfl) (Nat.le_of_ble_eq_true rfl) (t193 h28) ?_
    obtain ⟨q29, h30, hr⟩ := mBi hr
    refine gCall (z := 238) (n := 1) (f := 0) (kind := 1) (a := p0) (As := [.int q27]) (y := 239) (is := List.drop 43 mC239) (L := [.ref p0, .int p1, .int s.1]) (rest := []) (μ := q24) rfl (by decide) (by decide) ⟨rfl, rfl⟩ rfl h26 (Nat.le_of_ble_eq_true rfl) (Nat.le_of_ble_eq_true rfl) (t238 h30) ?_
    refine mGo.steps 4 (c' := (239, List.drop 47 mC239, [.ref p0, .int p1, .int s.1], [.int s.1, .int p1, .ref p0, .ref p0], q29)) rfl ?_
    obtain ⟨h31, hr⟩ := mIf hr
    obtain ⟨q32, h33, hr⟩ := mBi hr
    refine gCall (z := 195) (n := 2) (f := 0) (kind := 1) (a := p0) (As := [.int p1, .int s.1]) (y := 239) (is := List.drop 48 mC239) (L := [.ref p0, .int p1, .int s.1]) (rest := [.ref p0]) (μ := q29) rfl (by decide) (by decide) ⟨rfl, rfl⟩ rfl h31 (Nat.le_of_ble_eq_true rfl) (Nat.le_of_ble_eq_true rfl) (t195 h33) ?_
    obtain ⟨q34, h35, hr⟩ := mBi hr
    refine gCall (z := 238) (n := 1) (f := 0) (kind := 1) (a := p0) (As := [.int q32]) (y := 239) (is := List.drop 49 mC239) (L := [.ref p0, .int p1, .int s.1]) (rest := []) (μ := q29) rfl (by decide) (by decide) ⟨rfl, rfl⟩ rfl h31 (Nat.le_of_ble_eq_true rfl) (Nat.le_of_ble_eq_true rfl) (t238 h35) ?_
    refine mGo.steps 2 (c' := (239, List.drop 28 mC239, [.ref p0, .int p1, .int (s.1 + 1)], [], q34)) rfl ?_
    obtain rfl := Option.some.inj hr
    exact hC
theorem t239L28l (p0 : Nat) (p1 : Int32) {r : Option Value × mM} (n : Nat) (s : Int32 × mM) (o : (mM) ⊕ mM) (hr : mLoop (s239L28 p0 p1) n s = some o) (hC : Sum.elim (fun x : mM => ∀ (w0 : Value) (hw0 : mNotL w0 = true) (w1 : Value) (hw1 : mNotL w1 = true) (w2 : Value) (hw2 : mNotL w2 = true), mGo mG (239, List.drop 51 mC239, [w0, w1, w2], [], x) r) (fun y : mM => r = (none, y)) o) : mGo mG (239, List.drop 28 mC239, [.ref p0, .int p1, .int s.1], [], s.2) r :=
  mLoop_go (Hd := (fun s' : Int32 × mM => mGo mG (239, List.drop 28 mC239, [.ref p0, .int p1, .int s'.1], [], s'.2) r)) (fun s o hb hC => t239L28 p0 p1 s o hb hC) n s o hr hC
def s239 (μ : mM) (a0 : Nat) (a1 : Int32) : Option mM :=
  (mLoop (s239L2 a0 a1) 1000 (0, μ)).bind fun o7 => Sum.elim (fun x8 => (mLoop (s239L15 a0 a1) 1000 (0, x8)).bind fun o17 => Sum.elim (fun x18 => (mLoop (s239L28 a0 a1) 1000 (0, x18)).bind fun o37 => Sum.elim (fun x38 => some x38) (fun y39 => some y39) o37) (fun y19 => some y19) o17) (fun y9 => some y9) o7
set_option maxRecDepth 20000 in
theorem t239 {μ : mM} {a0 : Nat} {a1 : Int32} {o : mM} (hr : s239 μ a0 a1 = some o) : mEv mG 239 [.ref a0, .int a1] μ (none) (o) := by
  obtain ⟨r, hC⟩ : ∃ r : Option Value × mM, r = (none, o) := ⟨_, rfl⟩
  show mGo mG (239, List.drop 0 mC239, [.ref a0, .int a1, .retAddr 0], [], μ) (none, o)
  rw [← hC]
  unfold s239 at hr
  refine mGo.steps 2 (c' := (239, List.drop 2 mC239, [.ref a0, .int a1, .int 0], [], μ)) rfl ?_
  obtain ⟨o7, h10, hr⟩ := mBi hr
  refine t239L2l a0 a1 1000 (0, μ) o7 h10 ?_ 
  cases o7 with
  | inl x8 =>
    show ∀ (w2 : Value) (hw2 : mNotL w2 = true), mGo mG (239, List.drop 13 mC239, [.ref a0, .int a1, w2], [], x8) r
    intro w2 hw2
    replace hr : (_) = some _ := hr
    refine mGo.steps 2 (c' := (239, List.drop 15 mC239, [.ref a0, .int a1, .int 0], [], x8)) rfl ?_
    obtain ⟨o17, h20, hr⟩ := mBi hr
    refine t239L15l a0 a1 1000 (0, x8) o17 h20 ?_ 
    cases o17 with
    | inl x18 =>
      show ∀ (w2 : Value) (hw2 : mNotL w2 = true), mGo mG (239, List.drop 26 mC239, [.ref a0, .int a1, w2], [], x18) r
      intro w2 hw2
      replace hr : (_) = some _ := hr
      refine mGo.steps 2 (c' := (239, List.drop 28 mC239, [.ref a0, .int a1, .int 0], [], x18)) rfl ?_
      obtain ⟨o37, h40, hr⟩ := mBi hr
      refine t239L28l a0 a1 1000 (0, x18) o37 h40 ?_ 
      cases o37 with
      | inl x38 =>
        show ∀ (w0 : Value) (hw0 : mNotL w0 = true) (w1 : Value) (hw1 : mNotL w1 = true) (w2 : Value) (hw2 : mNotL w2 = true), mGo mG (239, List.drop 51 mC239, [w0, w1, w2], [], x38) r
        intro w0 hw0 w1 hw1 w2 hw2
        replace hr : (_) = some _ := hr
        obtain rfl := Option.some.inj hr
        rw [show r = _ from hC]
        exact gVret rfl
      | inr y39 =>
        obtain rfl := Option.some.inj hr
        exact hC
    | inr y19 =>
      obtain rfl := Option.some.inj hr
      exact hC
  | inr y9 =>
    obtain rfl := Option.some.inj hr
    exact hC

/-! 240: TunnelFabricModel.mixesTunnel(I)V -/
def s240L2 (p0 : Nat) (p1 : Int32) (s : Int32 × mM) : Option ((Int32 × mM) ⊕ ((mM) ⊕ mM)) :=
  if 6 ≤ s.1 then (some (.inr (.inl s.2))) else (if (mS s.2 p0).1 = 9 then (s205 s.2 p0 p1 s.1).bind fun q2 => (s238 s.2 p0 q2).bind fun q4 => some (.inl (s.1 + 1, q4)) else none)
set_option maxRecDepth 20000 in
theorem t240L2 (p0 : Nat) (p1 : Int32) {r : Option Value × mM} (s : Int32 × mM) (o : ((Int32 × mM) ⊕ ((mM) ⊕ mM))) (hr : s240L2 p0 p1 s = some o) (hC : Sum.elim (fun s' : Int32 × mM => ∀ (w3 : Value) (hw3 : mNotL w3 = true) (w4 : Value) (hw4 : mNotL w4 = true), mGo mG (240, List.drop 2 mC240, [.ref p0, .int p1, .int s'.1, w3, w4], [], s'.2) r) (Sum.elim (fun x : mM => ∀ (w2 : Value) (hw2 : mNotL w2 = true) (w3 : Value) (hw3 : mNotL w3 = true) (w4 : Value) (hw4 : mNotL w4 = true), mGo mG (240, List.drop 13 mC240, [.ref p0, .int p1, w2, w3, w4], [], x) r) (fun y : mM => r = (none, y))) o) : ∀ (w3 : Value) (hw3 : mNotL w3 = true) (w4 : Value) (hw4 : mNotL w4 = true), mGo mG (240, List.drop 2 mC240, [.ref p0, .int p1, .int s.1, w3, w4], [], s.2) r := by
  intro w3 hw3 w4 hw4
  unfold s240L2 at hr
  refine mGo.steps 2 (c' := (240, List.drop 4 mC240, [.ref p0, .int p1, .int s.1, w3, w4], [.int 6, .int s.1], s.2)) rfl ?_
  rcases mIte hr with ⟨h6, hr⟩ | ⟨h6, hr⟩
  · refine gBrT (p := 6 ≤ s.1) (y := 240) (is := List.drop 5 mC240) (L := [.ref p0, .int p1, .int s.1, w3, w4]) (st := []) (μ := s.2) (t := 24) rfl h6 ?_
    obtain rfl := Option.some.inj hr
    exact hC (.int s.1) rfl w3 hw3 w4 hw4
  · refine gBrF (p := 6 ≤ s.1) (y := 240) (is := List.drop 5 mC240) (L := [.ref p0, .int p1, .int s.1, w3, w4]) (st := []) (μ := s.2) (t := 24) rfl h6 ?_
    refine mGo.steps 4 (c' := (240, List.drop 9 mC240, [.ref p0, .int p1, .int s.1, w3, w4], [.int s.1, .int p1, .ref p0, .ref p0], s.2)) rfl ?_
    obtain ⟨h1, hr⟩ := mIf hr
    obtain ⟨q2, h3, hr⟩ := mBi hr
    refine gCall (z := 205) (n := 2) (f := 0) (kind := 1) (a := p0) (As := [.int p1, .int s.1]) (y := 240) (is := List.drop 10 mC240) (L := [.ref p0, .int p1, .int s.1, w3, w4]) (rest := [.ref p0]) (μ := s.2) rfl (by decide) (by decide) ⟨rfl, rfl⟩ rfl h1 (Nat.le_of_ble_eq_true rfl) (Nat.le_of_ble_eq_true rfl) (t205 h3) ?_
    obtain ⟨q4, h5, hr⟩ := mBi hr
    refine gCall (z := 238) (n := 1) (f := 0) (kind := 1) (a := p0) (As := [.int q2]) (y := 240) (is := List.drop 11 mC240) (L := [.ref p0, .int p1, .int s.1, w3, w4]) (rest := []) (μ := s.2) rfl (by decide) (by decide) ⟨rfl, rfl⟩ rfl h1 (Nat.le_of_ble_eq_true rfl) (Nat.le_of_ble_eq_true rfl) (t238 h5) ?_
    refine mGo.steps 2 (c' := (240, List.drop 2 mC240, [.ref p0, .int p1, .int (s.1 + 1), w3, w4], [], q4)) rfl ?_
    obtain rfl := Option.some.inj hr
    exact hC w3 hw3 w4 hw4
theorem t240L2l (p0 : Nat) (p1 : Int32) {r : Option Value × mM} (n : Nat) (s : Int32 × mM) (o : (mM) ⊕ mM) (hr : mLoop (s240L2 p0 p1) n s = some o) (hC : Sum.elim (fun x : mM => ∀ (w2 : Value) (hw2 : mNotL w2 = true) (w3 : Value) (hw3 : mNotL w3 = true) (w4 : Value) (hw4 : mNotL w4 = true), mGo mG (240, List.drop 13 mC240, [.ref p0, .int p1, w2, w3, w4], [], x) r) (fun y : mM => r = (none, y)) o) : ∀ (w3 : Value) (hw3 : mNotL w3 = true) (w4 : Value) (hw4 : mNotL w4 = true), mGo mG (240, List.drop 2 mC240, [.ref p0, .int p1, .int s.1, w3, w4], [], s.2) r :=
  mLoop_go (Hd := (fun s' : Int32 × mM => ∀ (w3 : Value) (hw3 : mNotL w3 = true) (w4 : Value) (hw4 : mNotL w4 = true), mGo mG (240, List.drop 2 mC240, [.ref p0, .int p1, .int s'.1, w3, w4], [], s'.2) r)) (fun s o hb hC => t240L2 p0 p1 s o hb hC) n s o hr hC
def s240L22_65 (p0 : Nat) (p1 : Int32) (p2 : Int32) (μ : mM) (v3 : Int32) : Option ((Int32 × mM) ⊕ ((mM) ⊕ mM)) :=
  some (.inl (v3 + 1, μ))
set_option maxRecDepth 20000 in
theorem t240L22_65 (p0 : Nat) (p1 : Int32) (p2 : Int32) (μ : mM) (v3 : Int32) (w4 : Value) (hw4 : mNotL w4 = true) {o : ((Int32 × mM) ⊕ ((mM) ⊕ mM))} {r : Option Value × mM} (hr : s240L22_65 p0 p1 p2 μ v3 = some o) (hC : Sum.elim (fun s' : Int32 × mM => ∀ (w4 : Value) (hw4 : mNotL w4 = true), mGo mG (240, List.drop 22 mC240, [.ref p0, .int p1, .int p2, .int s'.1, w4], [], s'.2) r) (Sum.elim (fun x : mM => ∀ (w0 : Value) (hw0 : mNotL w0 = true) (w1 : Value) (hw1 : mNotL w1 = true) (w2 : Value) (hw2 : mNotL w2 = true) (w3 : Value) (hw3 : mNotL w3 = true) (w4 : Value) (hw4 : mNotL w4 = true), mGo mG (240, List.drop 67 mC240, [w0, w1, w2, w3, w4], [], x) r) (fun y : mM => r = (none, y))) o) : mGo mG (240, List.drop 65 mC240, [.ref p0, .int p1, .int p2, .int v3, w4], [], μ) r := by
  unfold s240L22_65 at hr
  refine mGo.steps 2 (c' := (240, List.drop 22 mC240, [.ref p0, .int p1, .int p2, .int (v3 + 1), w4], [], μ)) rfl ?_
  obtain rfl := Option.some.inj hr
  exact hC w4 hw4
def s240L22L32 (p0 : Nat) (p1 : Int32) (p2 : Int32) (p3 : Int32) (s : Int32 × mM) : Option ((Int32 × mM) ⊕ ((mM) ⊕ mM)) :=
  if 3 ≤ s.1 then (some (.inr (.inl s.2))) else (if (mS s.2 p0).1 = 9 then (s207 s.2 p0 p1 p3 s.1).bind fun q20 => (s238 s.2 p0 q20).bind fun q22 => some (.inl (s.1 + 1, q22)) else none)
set_option maxRecDepth 20000 in
theorem t240L22L32 (p0 : Nat) (p1 : Int32) (p2 : Int32) (p3 : Int32) {r : Option Value × mM} (s : Int32 × mM) (o : ((Int32 × mM) ⊕ ((mM) ⊕ mM))) (hr : s240L22L32 p0 p1 p2 p3 s = some o) (hC : Sum.elim (fun s' : Int32 × mM => mGo mG (240, List.drop 32 mC240, [.ref p0, .int p1, .int p2, .int p3, .int s'.1], [], s'.2) r) (Sum.elim (fun x : mM => ∀ (w4 : Value) (hw4 : mNotL w4 = true), mGo mG (240, List.drop 44 mC240, [.ref p0, .int p1, .int p2, .int p3, w4], [], x) r) (fun y : mM => r = (none, y))) o) : mGo mG (240, List.drop 32 mC240, [.ref p0, .int p1, .int p2, .int p3, .int s.1], [], s.2) r := by
  unfold s240L22L32 at hr
  refine mGo.steps 2 (c' := (240, List.drop 34 mC240, [.ref p0, .int p1, .int p2, .int p3, .int s.1], [.int 3, .int s.1], s.2)) rfl ?_
  rcases mIte hr with ⟨h24, hr⟩ | ⟨h24, hr⟩
  · refine gBrT (p := 3 ≤ s.1) (y := 240) (is := List.drop 35 mC240) (L := [.ref p0, .int p1, .int p2, .int p3, .int s.1]) (st := []) (μ := s.2) (t := 78) rfl h24 ?_
    obtain rfl := Option.some.inj hr
    exact hC (.int s.1) rfl
  · refine gBrF (p := 3 ≤ s.1) (y := 240) (is := List.drop 35 mC240) (L := [.ref p0, .int p1, .int p2, .int p3, .int s.1]) (st := []) (μ := s.2) (t := 78) rfl h24 ?_
    refine mGo.steps 5 (c' := (240, List.drop 40 mC240, [.ref p0, .int p1, .int p2, .int p3, .int s.1], [.int s.1, .int p3, .int p1, .ref p0, .ref p0], s.2)) rfl ?_
    obtain ⟨h19, hr⟩ := mIf hr
    obtain ⟨q20, h21, hr⟩ := mBi hr
    refine gCall (z := 207) (n := 3) (f := 0) (kind := 1) (a := p0) (As := [.int p1, .int p3, .int s.1]) (y := 240) (is := List.drop 41 mC240) (L := [.ref p0, .int p1, .int p2, .int p3, .int s.1]) (rest := [.ref p0]) (μ := s.2) rfl (by decide) (by decide) ⟨rfl, rfl⟩ rfl h19 (Nat.le_of_ble_eq_true rfl) (Nat.le_of_ble_eq_true rfl) (t207 h21) ?_
    obtain ⟨q22, h23, hr⟩ := mBi hr
    refine gCall (z := 238) (n := 1) (f := 0) (kind := 1) (a := p0) (As := [.int q20]) (y := 240) (is := List.drop 42 mC240) (L := [.ref p0, .int p1, .int p2, .int p3, .int s.1]) (rest := []) (μ := s.2) rfl (by decide) (by decide) ⟨rfl, rfl⟩ rfl h19 (Nat.le_of_ble_eq_true rfl) (Nat.le_of_ble_eq_true rfl) (t238 h23) ?_
    refine mGo.steps 2 (c' := (240, List.drop 32 mC240, [.ref p0, .int p1, .int p2, .int p3, .int (s.1 + 1)], [], q22)) rfl ?_
    obtain rfl := Option.some.inj hr
    exact hC
theorem t240L22L32l (p0 : Nat) (p1 : Int32) (p2 : Int32) (p3 : Int32) {r : Option Value × mM} (n : Nat) (s : Int32 × mM) (o : (mM) ⊕ mM) (hr : mLoop (s240L22L32 p0 p1 p2 p3) n s = some o) (hC : Sum.elim (fun x : mM => ∀ (w4 : Value) (hw4 : mNotL w4 = true), mGo mG (240, List.drop 44 mC240, [.ref p0, .int p1, .int p2, .int p3, w4], [], x) r) (fun y : mM => r = (none, y)) o) : mGo mG (240, List.drop 32 mC240, [.ref p0, .int p1, .int p2, .int p3, .int s.1], [], s.2) r :=
  mLoop_go (Hd := (fun s' : Int32 × mM => mGo mG (240, List.drop 32 mC240, [.ref p0, .int p1, .int p2, .int p3, .int s'.1], [], s'.2) r)) (fun s o hb hC => t240L22L32 p0 p1 p2 p3 s o hb hC) n s o hr hC
def s240L22L46 (p0 : Nat) (p1 : Int32) (p2 : Int32) (p3 : Int32) (s : Int32 × mM) : Option ((Int32 × mM) ⊕ ((mM) ⊕ mM)) :=
  if (4 * p2) ≤ s.1 then (some (.inr (.inl s.2))) else (if (mS s.2 p0).1 = 9 then (s206 s.2 p0 p1 p3 (s.1 / 4) (s.1 - s.1 / 4 * 4)).bind fun q30 => (s238 s.2 p0 q30).bind fun q32 => some (.inl (s.1 + 1, q32)) else none)
set_option maxRecDepth 20000 in
theorem t240L22L46 (p0 : Nat) (p1 : Int32) (p2 : Int32) (p3 : Int32) {r : Option Value × mM} (s : Int32 × mM) (o : ((Int32 × mM) ⊕ ((mM) ⊕ mM))) (hr : s240L22L46 p0 p1 p2 p3 s = some o) (hC : Sum.elim (fun s' : Int32 × mM => mGo mG (240, List.drop 46 mC240, [.ref p0, .int p1, .int p2, .int p3, .int s'.1], [], s'.2) r) (Sum.elim (fun x : mM => ∀ (w4 : Value) (hw4 : mNotL w4 = true), mGo mG (240, List.drop 65 mC240, [.ref p0, .int p1, .int p2, .int p3, w4], [], x) r) (fun y : mM => r = (none, y))) o) : mGo mG (240, List.drop 46 mC240, [.ref p0, .int p1, .int p2, .int p3, .int s.1], [], s.2) r := by
  unfold s240L22L46 at hr
  refine mGo.steps 4 (c' := (240, List.drop 50 mC240, [.ref p0, .int p1, .int p2, .int p3, .int s.1], [.int (4 * p2), .int s.1], s.2)) rfl ?_
  rcases mIte hr with ⟨h34, hr⟩ | ⟨h34, hr⟩
  · refine gBrT (p := (4 * p2) ≤ s.1) (y := 240) (is := List.drop 51 mC240) (L := [.ref p0, .int p1, .int p2, .int p3, .int s.1]) (st := []) (μ := s.2) (t := 113) rfl h34 ?_
    obtain rfl := Option.some.inj hr
    exact hC (.int s.1) rfl
  · refine gBrF (p := (4 * p2) ≤ s.1) (y := 240) (is := List.drop 51 mC240) (L := [.ref p0, .int p1, .int p2, .int p3, .int s.1]) (st := []) (μ := s.2) (t := 113) rfl h34 ?_
    refine mGo.steps 10 (c' := (240, List.drop 61 mC240, [.ref p0, .int p1, .int p2, .int p3, .int s.1], [.int (s.1 - s.1 / 4 * 4), .int (s.1 / 4), .int p3, .int p1, .ref p0, .ref p0], s.2)) rfl ?_
    obtain ⟨h29, hr⟩ := mIf hr
    obtain ⟨q30, h31, hr⟩ := mBi hr
    refine gCall (z := 206) (n := 4) (f := 0) (kind := 1) (a := p0) (As := [.int p1, .int p3, .int (s.1 / 4), .int (s.1 - s.1 / 4 * 4)]) (y := 240) (is := List.drop 62 mC240) (L := [.ref p0, .int p1, .int p2, .int p3, .int s.1]) (rest := [.ref p0]) (μ := s.2) rfl (by decide) (by decide) ⟨rfl, rfl⟩ rfl h29 (Nat.le_of_ble_eq_true rfl) (Nat.le_of_ble_eq_true rfl) (t206 h31) ?_
    obtain ⟨q32, h33, hr⟩ := mBi hr
    refine gCall (z := 238) (n := 1) (f := 0) (kind := 1) (a := p0) (As := [.int q30]) (y := 240) (is := List.drop 63 mC240) (L := [.ref p0, .int p1, .int p2, .int p3, .int s.1]) (rest := []) (μ := s.2) rfl (by decide) (by decide) ⟨rfl, rfl⟩ rfl h29 (Nat.le_of_ble_eq_true rfl) (Nat.le_of_ble_eq_true rfl) (t238 h33) ?_
    refine mGo.steps 2 (c' := (240, List.drop 46 mC240, [.ref p0, .int p1, .int p2, .int p3, .int (s.1 + 1)], [], q32)) rfl ?_
    obtain rfl := Option.some.inj hr
    exact hC
theorem t240L22L46l (p0 : Nat) (p1 : Int32) (p2 : Int32) (p3 : Int32) {r : Option Value × mM} (n : Nat) (s : Int32 × mM) (o : (mM) ⊕ mM) (hr : mLoop (s240L22L46 p0 p1 p2 p3) n s = some o) (hC : Sum.elim (fun x : mM => ∀ (w4 : Value) (hw4 : mNotL w4 = true), mGo mG (240, List.drop 65 mC240, [.ref p0, .int p1, .int p2, .int p3, w4], [], x) r) (fun y : mM => r = (none, y)) o) : mGo mG (240, List.drop 46 mC240, [.ref p0, .int p1, .int p2, .int p3, .int s.1], [], s.2) r :=
  mLoop_go (Hd := (fun s' : Int32 × mM => mGo mG (240, List.drop 46 mC240, [.ref p0, .int p1, .int p2, .int p3, .int s'.1], [], s'.2) r)) (fun s o hb hC => t240L22L46 p0 p1 p2 p3 s o hb hC) n s o hr hC
def s240L22 (p0 : Nat) (p1 : Int32) (p2 : Int32) (s : Int32 × mM) : Option ((Int32 × mM) ⊕ ((mM) ⊕ mM)) :=
  if 2 ≤ s.1 then (some (.inr (.inl s.2))) else (if (mS s.2 p0).1 = 9 then (s203 s.2 p0 p1 s.1).bind fun q17 => if q17 = 0 then (s240L22_65 p0 p1 p2 s.2 s.1) else ((mLoop (s240L22L32 p0 p1 p2 s.1) 1000 (0, s.2)).bind fun o25 => Sum.elim (fun x26 => (mLoop (s240L22L46 p0 p1 p2 s.1) 1000 (0, x26)).bind fun o35 => Sum.elim (fun x36 => s240L22_65 p0 p1 p2 x36 s.1) (fun y37 => some (.inr (.inr y37))) o35) (fun y27 => some (.inr (.inr y27))) o25) else none)
set_option maxRecDepth 20000 in
theorem t240L22 (p0 : Nat) (p1 : Int32) (p2 : Int32) {r : Option Value × mM} (s : Int32 × mM) (o : ((Int32 × mM) ⊕ ((mM) ⊕ mM))) (hr : s240L22 p0 p1 p2 s = some o) (hC : Sum.elim (fun s' : Int32 × mM => ∀ (w4 : Value) (hw4 : mNotL w4 = true), mGo mG (240, List.drop 22 mC240, [.ref p0, .int p1, .int p2, .int s'.1, w4], [], s'.2) r) (Sum.elim (fun x : mM => ∀ (w0 : Value) (hw0 : mNotL w0 = true) (w1 : Value) (hw1 : mNotL w1 = true) (w2 : Value) (hw2 : mNotL w2 = true) (w3 : Value) (hw3 : mNotL w3 = true) (w4 : Value) (hw4 : mNotL w4 = true), mGo mG (240, List.drop 67 mC240, [w0, w1, w2, w3, w4], [], x) r) (fun y : mM => r = (none, y))) o) : ∀ (w4 : Value) (hw4 : mNotL w4 = true), mGo mG (240, List.drop 22 mC240, [.ref p0, .int p1, .int p2, .int s.1, w4], [], s.2) r := by
  intro w4 hw4
  unfold s240L22 at hr
  refine mGo.steps 2 (c' := (240, List.drop 24 mC240, [.ref p0, .int p1, .int p2, .int s.1, w4], [.int 2, .int s.1], s.2)) rfl ?_
  rcases mIte hr with ⟨h40, hr⟩ | ⟨h40, hr⟩
  · refine gBrT (p := 2 ≤ s.1) (y := 240) (is := List.drop 25 mC240) (L := [.ref p0, .int p1, .int p2, .int s.1, w4]) (st := []) (μ := s.2) (t := 119) rfl h40 ?_
    obtain rfl := Option.some.inj hr
    exact hC (.ref p0) rfl (.int p1) rfl (.int p2) rfl (.int s.1) rfl w4 hw4
  · refine gBrF (p := 2 ≤ s.1) (y := 240) (is := List.drop 25 mC240) (L := [.ref p0, .int p1, .int p2, .int s.1, w4]) (st := []) (μ := s.2) (t := 119) rfl h40 ?_
    refine mGo.steps 3 (c' := (240, List.drop 28 mC240, [.ref p0, .int p1, .int p2, .int s.1, w4], [.int s.1, .int p1, .ref p0], s.2)) rfl ?_
    obtain ⟨h16, hr⟩ := mIf hr
    obtain ⟨q17, h18, hr⟩ := mBi hr
    refine gCall (z := 203) (n := 2) (f := 0) (kind := 1) (a := p0) (As := [.int p1, .int s.1]) (y := 240) (is := List.drop 29 mC240) (L := [.ref p0, .int p1, .int p2, .int s.1, w4]) (rest := []) (μ := s.2) rfl (by decide) (by decide) ⟨rfl, rfl⟩ rfl h16 (Nat.le_of_ble_eq_true rfl) (Nat.le_of_ble_eq_true rfl) (t203 h18) ?_
    rcases mIte hr with ⟨h39, hr⟩ | ⟨h39, hr⟩
    · refine gBrT (p := q17 = 0) (y := 240) (is := List.drop 30 mC240) (L := [.ref p0, .int p1, .int p2, .int s.1, w4]) (st := []) (μ := s.2) (t := 113) rfl h39 ?_
      exact t240L22_65 p0 p1 p2 s.2 s.1 w4 hw4 hr hC
    · refine gBrF (p := q17 = 0) (y := 240) (is := List.drop 30 mC240) (L := [.ref p0, .int p1, .int p2, .int s.1, w4]) (st := []) (μ := s.2) (t := 113) rfl h39 ?_
      refine mGo.steps 2 (c' := (240, List.drop 32 mC240, [.ref p0, .int p1, .int p2, .int s.1, .int 0], [], s.2)) rfl ?_
      obtain ⟨o25, h28, hr⟩ := mBi hr
      refine t240L22L32l p0 p1 p2 s.1 1000 (0, s.2) o25 h28 ?_ 
      cases o25 with
      | inl x26 =>
        show ∀ (w4 : Value) (hw4 : mNotL w4 = true), mGo mG (240, List.drop 44 mC240, [.ref p0, .int p1, .int p2, .int s.1, w4], [], x26) r
        intro w4 hw4
        replace hr : (_) = some _ := hr
        refine mGo.steps 2 (c' := (240, List.drop 46 mC240, [.ref p0, .int p1, .int p2, .int s.1, .int 0], [], x26)) rfl ?_
        obtain ⟨o35, h38, hr⟩ := mBi hr
        refine t240L22L46l p0 p1 p2 s.1 1000 (0, x26) o35 h38 ?_ 
        cases o35 with
        | inl x36 =>
          show ∀ (w4 : Value) (hw4 : mNotL w4 = true), mGo mG (240, List.drop 65 mC240, [.ref p0, .int p1, .int p2, .int s.1, w4], [], x36) r
          intro w4 hw4
          replace hr : (_) = some _ := hr
          exact t240L22_65 p0 p1 p2 x36 s.1 w4 hw4 hr hC
        | inr y37 =>
          obtain rfl := Option.some.inj hr
          exact hC
      | inr y27 =>
        obtain rfl := Option.some.inj hr
        exact hC
theorem t240L22l (p0 : Nat) (p1 : Int32) (p2 : Int32) {r : Option Value × mM} (n : Nat) (s : Int32 × mM) (o : (mM) ⊕ mM) (hr : mLoop (s240L22 p0 p1 p2) n s = some o) (hC : Sum.elim (fun x : mM => ∀ (w0 : Value) (hw0 : mNotL w0 = true) (w1 : Value) (hw1 : mNotL w1 = true) (w2 : Value) (hw2 : mNotL w2 = true) (w3 : Value) (hw3 : mNotL w3 = true) (w4 : Value) (hw4 : mNotL w4 = true), mGo mG (240, List.drop 67 mC240, [w0, w1, w2, w3, w4], [], x) r) (fun y : mM => r = (none, y)) o) : ∀ (w4 : Value) (hw4 : mNotL w4 = true), mGo mG (240, List.drop 22 mC240, [.ref p0, .int p1, .int p2, .int s.1, w4], [], s.2) r :=
  mLoop_go (Hd := (fun s' : Int32 × mM => ∀ (w4 : Value) (hw4 : mNotL w4 = true), mGo mG (240, List.drop 22 mC240, [.ref p0, .int p1, .int p2, .int s'.1, w4], [], s'.2) r)) (fun s o hb hC => t240L22 p0 p1 p2 s o hb hC) n s o hr hC
def s240 (μ : mM) (a0 : Nat) (a1 : Int32) : Option mM :=
  (mLoop (s240L2 a0 a1) 1000 (0, μ)).bind fun o7 => Sum.elim (fun x8 => if (mS x8 a0).1 = 9 then (s159 x8 a0 a1 2).bind fun q12 => (s152 x8 a0 q12).bind fun q14 => (mLoop (s240L22 a0 a1 q14) 1000 (0, x8)).bind fun o41 => Sum.elim (fun x42 => some x42) (fun y43 => some y43) o41 else none) (fun y9 => some y9) o7
set_option maxRecDepth 20000 in
theorem t240 {μ : mM} {a0 : Nat} {a1 : Int32} {o : mM} (hr : s240 μ a0 a1 = some o) : mEv mG 240 [.ref a0, .int a1] μ (none) (o) := by
  obtain ⟨r, hC⟩ : ∃ r : Option Value × mM, r = (none, o) := ⟨_, rfl⟩
  show mGo mG (240, List.drop 0 mC240, [.ref a0, .int a1, .retAddr 0, .retAddr 0, .retAddr 0], [], μ) (none, o)
  rw [← hC]
  unfold s240 at hr
  refine mGo.steps 2 (c' := (240, List.drop 2 mC240, [.ref a0, .int a1, .int 0, .retAddr 0, .retAddr 0], [], μ)) rfl ?_
  obtain ⟨o7, h10, hr⟩ := mBi hr
  refine t240L2l a0 a1 1000 (0, μ) o7 h10 ?_ (.retAddr 0) rfl (.retAddr 0) rfl
  cases o7 with
  | inl x8 =>
    show ∀ (w2 : Value) (hw2 : mNotL w2 = true) (w3 : Value) (hw3 : mNotL w3 = true) (w4 : Value) (hw4 : mNotL w4 = true), mGo mG (240, List.drop 13 mC240, [.ref a0, .int a1, w2, w3, w4], [], x8) r
    intro w2 hw2 w3 hw3 w4 hw4
    replace hr : (_) = some _ := hr
    refine mGo.steps 4 (c' := (240, List.drop 17 mC240, [.ref a0, .int a1, w2, w3, w4], [.int 2, .int a1, .ref a0, .ref a0], x8)) rfl ?_
    obtain ⟨h11, hr⟩ := mIf hr
    obtain ⟨q12, h13, hr⟩ := mBi hr
    refine gCall (z := 159) (n := 2) (f := 0) (kind := 1) (a := a0) (As := [.int a1, .int 2]) (y := 240) (is := List.drop 18 mC240) (L := [.ref a0, .int a1, w2, w3, w4]) (rest := [.ref a0]) (μ := x8) rfl (by decide) (by decide) ⟨rfl, rfl⟩ rfl h11 (Nat.le_of_ble_eq_true rfl) (Nat.le_of_ble_eq_true rfl) (t159 h13) ?_
    obtain ⟨q14, h15, hr⟩ := mBi hr
    refine gCall (z := 152) (n := 1) (f := 0) (kind := 1) (a := a0) (As := [.int q12]) (y := 240) (is := List.drop 19 mC240) (L := [.ref a0, .int a1, w2, w3, w4]) (rest := []) (μ := x8) rfl (by decide) (by decide) ⟨rfl, rfl⟩ rfl h11 (Nat.le_of_ble_eq_true rfl) (Nat.le_of_ble_eq_true rfl) (t152 h15) ?_
    refine mGo.steps 3 (c' := (240, List.drop 22 mC240, [.ref a0, .int a1, .int q14, .int 0, w4], [], x8)) rfl ?_
    obtain ⟨o41, h44, hr⟩ := mBi hr
    refine t240L22l a0 a1 q14 1000 (0, x8) o41 h44 ?_ w4 hw4
    cases o41 with
    | inl x42 =>
      show ∀ (w0 : Value) (hw0 : mNotL w0 = true) (w1 : Value) (hw1 : mNotL w1 = true) (w2 : Value) (hw2 : mNotL w2 = true) (w3 : Value) (hw3 : mNotL w3 = true) (w4 : Value) (hw4 : mNotL w4 = true), mGo mG (240, List.drop 67 mC240, [w0, w1, w2, w3, w4], [], x42) r
      intro w0 hw0 w1 hw1 w2 hw2 w3 hw3 w4 hw4
      replace hr : (_) = some _ := hr
      obtain rfl := Option.some.inj hr
      rw [show r = _ from hC]
      exact gVret rfl
    | inr y43 =>
      obtain rfl := Option.some.inj hr
      exact hC
  | inr y9 =>
    obtain rfl := Option.some.inj hr
    exact hC

/-! 241: TunnelFabricModel.digest()J -/
def s241L5 (p0 : Nat) (s : Int32 × mM) : Option ((Int32 × mM) ⊕ ((mM) ⊕ (Int64 × mM))) :=
  if 9 ≤ s.1 then (some (.inr (.inl s.2))) else (if (mS s.2 p0).1 = 9 then (s235 s.2 p0 s.1).bind fun q4 => (s238 s.2 p0 q4).bind fun q6 => some (.inl (s.1 + 1, q6)) else none)
set_option maxRecDepth 20000 in
theorem t241L5 (p0 : Nat) {r : Option Value × mM} (s : Int32 × mM) (o : ((Int32 × mM) ⊕ ((mM) ⊕ (Int64 × mM)))) (hr : s241L5 p0 s = some o) (hC : Sum.elim (fun s' : Int32 × mM => mGo mG (241, List.drop 5 mC241, [.ref p0, .int s'.1], [], s'.2) r) (Sum.elim (fun x : mM => ∀ (w1 : Value) (hw1 : mNotL w1 = true), mGo mG (241, List.drop 15 mC241, [.ref p0, w1], [], x) r) (fun y : (Int64 × mM) => r = (some (.long y.1), y.2))) o) : mGo mG (241, List.drop 5 mC241, [.ref p0, .int s.1], [], s.2) r := by
  unfold s241L5 at hr
  refine mGo.steps 2 (c' := (241, List.drop 7 mC241, [.ref p0, .int s.1], [.int 9, .int s.1], s.2)) rfl ?_
  rcases mIte hr with ⟨h8, hr⟩ | ⟨h8, hr⟩
  · refine gBrT (p := 9 ≤ s.1) (y := 241) (is := List.drop 8 mC241) (L := [.ref p0, .int s.1]) (st := []) (μ := s.2) (t := 30) rfl h8 ?_
    obtain rfl := Option.some.inj hr
    exact hC (.int s.1) rfl
  · refine gBrF (p := 9 ≤ s.1) (y := 241) (is := List.drop 8 mC241) (L := [.ref p0, .int s.1]) (st := []) (μ := s.2) (t := 30) rfl h8 ?_
    refine mGo.steps 3 (c' := (241, List.drop 11 mC241, [.ref p0, .int s.1], [.int s.1, .ref p0, .ref p0], s.2)) rfl ?_
    obtain ⟨h3, hr⟩ := mIf hr
    obtain ⟨q4, h5, hr⟩ := mBi hr
    refine gCall (z := 235) (n := 1) (f := 0) (kind := 1) (a := p0) (As := [.int s.1]) (y := 241) (is := List.drop 12 mC241) (L := [.ref p0, .int s.1]) (rest := [.ref p0]) (μ := s.2) rfl (by decide) (by decide) ⟨rfl, rfl⟩ rfl h3 (Nat.le_of_ble_eq_true rfl) (Nat.le_of_ble_eq_true rfl) (t235 h5) ?_
    obtain ⟨q6, h7, hr⟩ := mBi hr
    refine gCall (z := 238) (n := 1) (f := 0) (kind := 1) (a := p0) (As := [.int q4]) (y := 241) (is := List.drop 13 mC241) (L := [.ref p0, .int s.1]) (rest := []) (μ := s.2) rfl (by decide) (by decide) ⟨rfl, rfl⟩ rfl h3 (Nat.le_of_ble_eq_true rfl) (Nat.le_of_ble_eq_true rfl) (t238 h7) ?_
    refine mGo.steps 2 (c' := (241, List.drop 5 mC241, [.ref p0, .int (s.1 + 1)], [], q6)) rfl ?_
    obtain rfl := Option.some.inj hr
    exact hC
theorem t241L5l (p0 : Nat) {r : Option Value × mM} (n : Nat) (s : Int32 × mM) (o : (mM) ⊕ (Int64 × mM)) (hr : mLoop (s241L5 p0) n s = some o) (hC : Sum.elim (fun x : mM => ∀ (w1 : Value) (hw1 : mNotL w1 = true), mGo mG (241, List.drop 15 mC241, [.ref p0, w1], [], x) r) (fun y : (Int64 × mM) => r = (some (.long y.1), y.2)) o) : mGo mG (241, List.drop 5 mC241, [.ref p0, .int s.1], [], s.2) r :=
  mLoop_go (Hd := (fun s' : Int32 × mM => mGo mG (241, List.drop 5 mC241, [.ref p0, .int s'.1], [], s'.2) r)) (fun s o hb hC => t241L5 p0 s o hb hC) n s o hr hC
def s241L17_33 (p0 : Nat) (μ : mM) (v1 : Int32) : Option ((Int32 × mM) ⊕ ((mM) ⊕ (Int64 × mM))) :=
  some (.inl (v1 + 1, μ))
set_option maxRecDepth 20000 in
theorem t241L17_33 (p0 : Nat) (μ : mM) (v1 : Int32) {o : ((Int32 × mM) ⊕ ((mM) ⊕ (Int64 × mM)))} {r : Option Value × mM} (hr : s241L17_33 p0 μ v1 = some o) (hC : Sum.elim (fun s' : Int32 × mM => mGo mG (241, List.drop 17 mC241, [.ref p0, .int s'.1], [], s'.2) r) (Sum.elim (fun x : mM => ∀ (w1 : Value) (hw1 : mNotL w1 = true), mGo mG (241, List.drop 35 mC241, [.ref p0, w1], [], x) r) (fun y : (Int64 × mM) => r = (some (.long y.1), y.2))) o) : mGo mG (241, List.drop 33 mC241, [.ref p0, .int v1], [], μ) r := by
  unfold s241L17_33 at hr
  refine mGo.steps 2 (c' := (241, List.drop 17 mC241, [.ref p0, .int (v1 + 1)], [], μ)) rfl ?_
  obtain rfl := Option.some.inj hr
  exact hC
def s241L17 (p0 : Nat) (s : Int32 × mM) : Option ((Int32 × mM) ⊕ ((mM) ⊕ (Int64 × mM))) :=
  if 8 ≤ s.1 then (some (.inr (.inl s.2))) else (if (mS s.2 p0).1 = 9 then (s148 s.2 p0 s.1 0).bind fun q14 => if ¬ q14 = 1 then ((s238 s.2 p0 (-1)).bind fun q16 => s241L17_33 p0 q16 s.1) else ((s239 s.2 p0 s.1).bind fun q18 => s241L17_33 p0 q18 s.1) else none)
set_option maxRecDepth 20000 in
theorem t241L17 (p0 : Nat) {r : Option Value × mM} (s : Int32 × mM) (o : ((Int32 × mM) ⊕ ((mM) ⊕ (Int64 × mM)))) (hr : s241L17 p0 s = some o) (hC : Sum.elim (fun s' : Int32 × mM => mGo mG (241, List.drop 17 mC241, [.ref p0, .int s'.1], [], s'.2) r) (Sum.elim (fun x : mM => ∀ (w1 : Value) (hw1 : mNotL w1 = true), mGo mG (241, List.drop 35 mC241, [.ref p0, w1], [], x) r) (fun y : (Int64 × mM) => r = (some (.long y.1), y.2))) o) : mGo mG (241, List.drop 17 mC241, [.ref p0, .int s.1], [], s.2) r := by
  unfold s241L17 at hr
  refine mGo.steps 2 (c' := (241, List.drop 19 mC241, [.ref p0, .int s.1], [.int 8, .int s.1], s.2)) rfl ?_
  rcases mIte hr with ⟨h21, hr⟩ | ⟨h21, hr⟩
  · refine gBrT (p := 8 ≤ s.1) (y := 241) (is := List.drop 20 mC241) (L := [.ref p0, .int s.1]) (st := []) (μ := s.2) (t := 67) rfl h21 ?_
    obtain rfl := Option.some.inj hr
    exact hC (.int s.1) rfl
  · refine gBrF (p := 8 ≤ s.1) (y := 241) (is := List.drop 20 mC241) (L := [.ref p0, .int s.1]) (st := []) (μ := s.2) (t := 67) rfl h21 ?_
    refine mGo.steps 3 (c' := (241, List.drop 23 mC241, [.ref p0, .int s.1], [.int 0, .int s.1, .ref p0], s.2)) rfl ?_
    obtain ⟨h13, hr⟩ := mIf hr
    obtain ⟨q14, h15, hr⟩ := mBi hr
    refine gCall (z := 148) (n := 2) (f := 0) (kind := 1) (a := p0) (As := [.int s.1, .int 0]) (y := 241) (is := List.drop 24 mC241) (L := [.ref p0, .int s.1]) (rest := []) (μ := s.2) rfl (by decide) (by decide) ⟨rfl, rfl⟩ rfl h13 (Nat.le_of_ble_eq_true rfl) (Nat.le_of_ble_eq_true rfl) (t148 h15) ?_
    refine mGo.steps 1 (c' := (241, List.drop 25 mC241, [.ref p0, .int s.1], [.int 1, .int q14], s.2)) rfl ?_
    rcases mIte hr with ⟨h20, hr⟩ | ⟨h20, hr⟩
    · refine gBrT (p := ¬ q14 = 1) (y := 241) (is := List.drop 26 mC241) (L := [.ref p0, .int s.1]) (st := []) (μ := s.2) (t := 56) rfl h20 ?_
      refine mGo.steps 2 (c' := (241, List.drop 32 mC241, [.ref p0, .int s.1], [.int (-1), .ref p0], s.2)) rfl ?_
      obtain ⟨q16, h17, hr⟩ := mBi hr
      refine gCall (z := 238) (n := 1) (f := 0) (kind := 1) (a := p0) (As := [.int (-1)]) (y := 241) (is := List.drop 33 mC241) (L := [.ref p0, .int s.1]) (rest := []) (μ := s.2) rfl (by decide) (by decide) ⟨rfl, rfl⟩ rfl h13 (Nat.le_of_ble_eq_true rfl) (Nat.le_of_ble_eq_true rfl) (t238 h17) ?_
      exact t241L17_33 p0 q16 s.1 hr hC
    · refine gBrF (p := ¬ q14 = 1) (y := 241) (is := List.drop 26 mC241) (L := [.ref p0, .int s.1]) (st := []) (μ := s.2) (t := 56) rfl h20 ?_
      refine mGo.steps 2 (c' := (241, List.drop 28 mC241, [.ref p0, .int s.1], [.int s.1, .ref p0], s.2)) rfl ?_
      obtain ⟨q18, h19, hr⟩ := mBi hr
      refine gCall (z := 239) (n := 1) (f := 0) (kind := 1) (a := p0) (As := [.int s.1]) (y := 241) (is := List.drop 29 mC241) (L := [.ref p0, .int s.1]) (rest := []) (μ := s.2) rfl (by decide) (by decide) ⟨rfl, rfl⟩ rfl h13 (Nat.le_of_ble_eq_true rfl) (Nat.le_of_ble_eq_true rfl) (t239 h19) ?_
      refine mGo.steps 1 (c' := (241, List.drop 33 mC241, [.ref p0, .int s.1], [], q18)) rfl ?_
      exact t241L17_33 p0 q18 s.1 hr hC
theorem t241L17l (p0 : Nat) {r : Option Value × mM} (n : Nat) (s : Int32 × mM) (o : (mM) ⊕ (Int64 × mM)) (hr : mLoop (s241L17 p0) n s = some o) (hC : Sum.elim (fun x : mM => ∀ (w1 : Value) (hw1 : mNotL w1 = true), mGo mG (241, List.drop 35 mC241, [.ref p0, w1], [], x) r) (fun y : (Int64 × mM) => r = (some (.long y.1), y.2)) o) : mGo mG (241, List.drop 17 mC241, [.ref p0, .int s.1], [], s.2) r :=
  mLoop_go (Hd := (fun s' : Int32 × mM => mGo mG (241, List.drop 17 mC241, [.ref p0, .int s'.1], [], s'.2) r)) (fun s o hb hC => t241L17 p0 s o hb hC) n s o hr hC
def s241L37_53 (p0 : Nat) (μ : mM) (v1 : Int32) : Option ((Int32 × mM) ⊕ ((mM) ⊕ (Int64 × mM))) :=
  some (.inl (v1 + 1, μ))
set_option maxRecDepth 20000 in
theorem t241L37_53 (p0 : Nat) (μ : mM) (v1 : Int32) {o : ((Int32 × mM) ⊕ ((mM) ⊕ (Int64 × mM)))} {r : Option Value × mM} (hr : s241L37_53 p0 μ v1 = some o) (hC : Sum.elim (fun s' : Int32 × mM => mGo mG (241, List.drop 37 mC241, [.ref p0, .int s'.1], [], s'.2) r) (Sum.elim (fun x : mM => ∀ (w1 : Value) (hw1 : mNotL w1 = true), mGo mG (241, List.drop 55 mC241, [.ref p0, w1], [], x) r) (fun y : (Int64 × mM) => r = (some (.long y.1), y.2))) o) : mGo mG (241, List.drop 53 mC241, [.ref p0, .int v1], [], μ) r := by
  unfold s241L37_53 at hr
  refine mGo.steps 2 (c' := (241, List.drop 37 mC241, [.ref p0, .int (v1 + 1)], [], μ)) rfl ?_
  obtain rfl := Option.some.inj hr
  exact hC
def s241L37 (p0 : Nat) (s : Int32 × mM) : Option ((Int32 × mM) ⊕ ((mM) ⊕ (Int64 × mM))) :=
  if 10 ≤ s.1 then (some (.inr (.inl s.2))) else (if (mS s.2 p0).1 = 9 then (s159 s.2 p0 s.1 0).bind fun q27 => if ¬ q27 = 1 then ((s238 s.2 p0 (-1)).bind fun q29 => s241L37_53 p0 q29 s.1) else ((s240 s.2 p0 s.1).bind fun q31 => s241L37_53 p0 q31 s.1) else none)
set_option maxRecDepth 20000 in
theorem t241L37 (p0 : Nat) {r : Option Value × mM} (s : Int32 × mM) (o : ((Int32 × mM) ⊕ ((mM) ⊕ (Int64 × mM)))) (hr : s241L37 p0 s = some o) (hC : Sum.elim (fun s' : Int32 × mM => mGo mG (241, List.drop 37 mC241, [.ref p0, .int s'.1], [], s'.2) r) (Sum.elim (fun x : mM => ∀ (w1 : Value) (hw1 : mNotL w1 = true), mGo mG (241, List.drop 55 mC241, [.ref p0, w1], [], x) r) (fun y : (Int64 × mM) => r = (some (.long y.1), y.2))) o) : mGo mG (241, List.drop 37 mC241, [.ref p0, .int s.1], [], s.2) r := by
  unfold s241L37 at hr
  refine mGo.steps 2 (c' := (241, List.drop 39 mC241, [.ref p0, .int s.1], [.int 10, .int s.1], s.2)) rfl ?_
  rcases mIte hr with ⟨h34, hr⟩ | ⟨h34, hr⟩
  · refine gBrT (p := 10 ≤ s.1) (y := 241) (is := List.drop 40 mC241) (L := [.ref p0, .int s.1]) (st := []) (μ := s.2) (t := 104) rfl h34 ?_
    obtain rfl := Option.some.inj hr
    exact hC (.int s.1) rfl
  · refine gBrF (p := 10 ≤ s.1) (y := 241) (is := List.drop 40 mC241) (L := [.ref p0, .int s.1]) (st := []) (μ := s.2) (t := 104) rfl h34 ?_
    refine mGo.steps 3 (c' := (241, List.drop 43 mC241, [.ref p0, .int s.1], [.int 0, .int s.1, .ref p0], s.2)) rfl ?_
    obtain ⟨h26, hr⟩ := mIf hr
    obtain ⟨q27, h28, hr⟩ := mBi hr
    refine gCall (z := 159) (n := 2) (f := 0) (kind := 1) (a := p0) (As := [.int s.1, .int 0]) (y := 241) (is := List.drop 44 mC241) (L := [.ref p0, .int s.1]) (rest := []) (μ := s.2) rfl (by decide) (by decide) ⟨rfl, rfl⟩ rfl h26 (Nat.le_of_ble_eq_true rfl) (Nat.le_of_ble_eq_true rfl) (t159 h28) ?_
    refine mGo.steps 1 (c' := (241, List.drop 45 mC241, [.ref p0, .int s.1], [.int 1, .int q27], s.2)) rfl ?_
    rcases mIte hr with ⟨h33, hr⟩ | ⟨h33, hr⟩
    · refine gBrT (p := ¬ q27 = 1) (y := 241) (is := List.drop 46 mC241) (L := [.ref p0, .int s.1]) (st := []) (μ := s.2) (t := 93) rfl h33 ?_
      refine mGo.steps 2 (c' := (241, List.drop 52 mC241, [.ref p0, .int s.1], [.int (-1), .ref p0], s.2)) rfl ?_
      obtain ⟨q29, h30, hr⟩ := mBi hr
      refine gCall (z := 238) (n := 1) (f := 0) (kind := 1) (a := p0) (As := [.int (-1)]) (y := 241) (is := List.drop 53 mC241) (L := [.ref p0, .int s.1]) (rest := []) (μ := s.2) rfl (by decide) (by decide) ⟨rfl, rfl⟩ rfl h26 (Nat.le_of_ble_eq_true rfl) (Nat.le_of_ble_eq_true rfl) (t238 h30) ?_
      exact t241L37_53 p0 q29 s.1 hr hC
    · refine gBrF (p := ¬ q27 = 1) (y := 241) (is := List.drop 46 mC241) (L := [.ref p0, .int s.1]) (st := []) (μ := s.2) (t := 93) rfl h33 ?_
      refine mGo.steps 2 (c' := (241, List.drop 48 mC241, [.ref p0, .int s.1], [.int s.1, .ref p0], s.2)) rfl ?_
      obtain ⟨q31, h32, hr⟩ := mBi hr
      refine gCall (z := 240) (n := 1) (f := 0) (kind := 1) (a := p0) (As := [.int s.1]) (y := 241) (is := List.drop 49 mC241) (L := [.ref p0, .int s.1]) (rest := []) (μ := s.2) rfl (by decide) (by decide) ⟨rfl, rfl⟩ rfl h26 (Nat.le_of_ble_eq_true rfl) (Nat.le_of_ble_eq_true rfl) (t240 h32) ?_
      refine mGo.steps 1 (c' := (241, List.drop 53 mC241, [.ref p0, .int s.1], [], q31)) rfl ?_
      exact t241L37_53 p0 q31 s.1 hr hC
theorem t241L37l (p0 : Nat) {r : Option Value × mM} (n : Nat) (s : Int32 × mM) (o : (mM) ⊕ (Int64 × mM)) (hr : mLoop (s241L37 p0) n s = some o) (hC : Sum.elim (fun x : mM => ∀ (w1 : Value) (hw1 : mNotL w1 = true), mGo mG (241, List.drop 55 mC241, [.ref p0, w1], [], x) r) (fun y : (Int64 × mM) => r = (some (.long y.1), y.2)) o) : mGo mG (241, List.drop 37 mC241, [.ref p0, .int s.1], [], s.2) r :=
  mLoop_go (Hd := (fun s' : Int32 × mM => mGo mG (241, List.drop 37 mC241, [.ref p0, .int s'.1], [], s'.2) r)) (fun s o hb hC => t241L37 p0 s o hb hC) n s o hr hC
def s241 (μ : mM) (a0 : Nat) : Option (Int64 × mM) :=
  if (mS μ a0).1 = 9 then (some (mUJ μ a0 20 (Int64.ofNat 41))).bind fun μ2 => (mLoop (s241L5 a0) 1000 (0, μ2)).bind fun o9 => Sum.elim (fun x10 => (mLoop (s241L17 a0) 1000 (1, x10)).bind fun o22 => Sum.elim (fun x23 => (mLoop (s241L37 a0) 1000 (0, x23)).bind fun o35 => Sum.elim (fun x36 => if (mS x36 a0).1 = 9 then some (mJ x36 a0 20, x36) else none) (fun y37 => some y37) o35) (fun y24 => some y24) o22) (fun y11 => some y11) o9 else none
set_option maxRecDepth 20000 in
theorem t241 {μ : mM} {a0 : Nat} {o : (Int64 × mM)} (hr : s241 μ a0 = some o) : mEv mG 241 [.ref a0] μ (some (.long o.1)) (o.2) := by
  obtain ⟨r, hC⟩ : ∃ r : Option Value × mM, r = (some (.long o.1), o.2) := ⟨_, rfl⟩
  show mGo mG (241, List.drop 0 mC241, [.ref a0, .retAddr 0], [], μ) (some (.long o.1), o.2)
  rw [← hC]
  unfold s241 at hr
  refine mGo.steps 2 (c' := (241, List.drop 2 mC241, [.ref a0, .retAddr 0], [.long (Int64.ofNat 41), .ref a0], μ)) rfl ?_
  obtain ⟨h1, hr⟩ := mIf hr
  replace hr := mBs hr
  refine gPut (is := List.drop 3 mC241) (μ' := mUJ μ a0 20 (Int64.ofNat 41)) h1 rfl ?_
  let μ2 : mM := mUJ μ a0 20 (Int64.ofNat 41)
  refine mGo.steps 2 (c' := (241, List.drop 5 mC241, [.ref a0, .int 0], [], μ2)) rfl ?_
  obtain ⟨o9, h12, hr⟩ := mBi hr
  refine t241L5l a0 1000 (0, μ2) o9 h12 ?_ 
  cases o9 with
  | inl x10 =>
    show ∀ (w1 : Value) (hw1 : mNotL w1 = true), mGo mG (241, List.drop 15 mC241, [.ref a0, w1], [], x10) r
    intro w1 hw1
    replace hr : (_) = some _ := hr
    refine mGo.steps 2 (c' := (241, List.drop 17 mC241, [.ref a0, .int 1], [], x10)) rfl ?_
    obtain ⟨o22, h25, hr⟩ := mBi hr
    refine t241L17l a0 1000 (1, x10) o22 h25 ?_ 
    cases o22 with
    | inl x23 =>
      show ∀ (w1 : Value) (hw1 : mNotL w1 = true), mGo mG (241, List.drop 35 mC241, [.ref a0, w1], [], x23) r
      intro w1 hw1
      replace hr : (_) = some _ := hr
      refine mGo.steps 2 (c' := (241, List.drop 37 mC241, [.ref a0, .int 0], [], x23)) rfl ?_
      obtain ⟨o35, h38, hr⟩ := mBi hr
      refine t241L37l a0 1000 (0, x23) o35 h38 ?_ 
      cases o35 with
      | inl x36 =>
        show ∀ (w1 : Value) (hw1 : mNotL w1 = true), mGo mG (241, List.drop 55 mC241, [.ref a0, w1], [], x36) r
        intro w1 hw1
        replace hr : (_) = some _ := hr
        refine mGo.steps 1 (c' := (241, List.drop 56 mC241, [.ref a0, w1], [.ref a0], x36)) rfl ?_
        obtain ⟨h39, hr⟩ := mIf hr
        refine gGet (is := List.drop 57 mC241) (v := .long (mJ x36 a0 20)) h39 rfl ?_
        obtain rfl := Option.some.inj hr
        rw [show r = _ from hC]
        exact gLret rfl
      | inr y37 =>
        obtain rfl := Option.some.inj hr
        exact hC
    | inr y24 =>
      obtain rfl := Option.some.inj hr
      exact hC
  | inr y11 =>
    obtain rfl := Option.some.inj hr
    exact hC
