/-! 61: TunnelFabric$Plan.read()I -/
def s61L4 (p0 : Nat) (s : Int32 × mM) : Option ((Int32 × mM) ⊕ ((mM) ⊕ (Int32 × mM))) :=
  if (mS s.2 p0).1 = 3 then if (mI s.2 p0 1) ≤ s.1 then (some (.inr (.inl s.2))) else (if 60 ≤ s.1 then (some (.inr (.inl s.2))) else (if (mS s.2 (mP s.2 p0 0)).1 = 10 ∧ mInb s.1 (mS s.2 (mP s.2 p0 0)).2 then (s63 s.2 p0 (mI s.2 (mP s.2 p0 0) (Int32.toNatClampNeg s.1))).bind fun q6 => if ¬ q6.1 = 0 then (some (.inl (s.1 + 1, q6.2))) else (some (.inr (.inr (s.1, q6.2)))) else none)) else none
set_option maxRecDepth 20000 in
theorem t61L4 (p0 : Nat) {r : Option Value × mM} (s : Int32 × mM) (o : ((Int32 × mM) ⊕ ((mM) ⊕ (Int32 × mM)))) (hr : s61L4 p0 s = some o) (hC : Sum.elim (fun s' : Int32 × mM => mGo mG (61, List.drop 4 mC61, [.ref p0, .int s'.1], [], s'.2) r) (Sum.elim (fun x : mM => ∀ (w1 : Value) (hw1 : mNotL w1 = true), mGo mG (61, List.drop 22 mC61, [.ref p0, w1], [], x) r) (fun y : (Int32 × mM) => r = (some (.int y.1), y.2))) o) : mGo mG (61, List.drop 4 mC61, [.ref p0, .int s.1], [], s.2) r := by
  unfold s61L4 at hr
  refine mGo.steps 2 (c' := (61, List.drop 6 mC61, [.ref p0, .int s.1], [.ref p0, .int s.1], s.2)) rfl ?_
  obtain ⟨h4, hr⟩ := mIf hr
  refine gGet (is := List.drop 7 mC61) (v := .int (mI s.2 p0 1)) h4 rfl ?_
  rcases mIte hr with ⟨h10, hr⟩ | ⟨h10, hr⟩
  · refine gBrT (p := (mI s.2 p0 1) ≤ s.1) (y := 61) (is := List.drop 8 mC61) (L := [.ref p0, .int s.1]) (st := []) (μ := s.2) (t := 41) rfl h10 ?_
    obtain rfl := Option.some.inj hr
    exact hC (.int s.1) rfl
  · refine gBrF (p := (mI s.2 p0 1) ≤ s.1) (y := 61) (is := List.drop 8 mC61) (L := [.ref p0, .int s.1]) (st := []) (μ := s.2) (t := 41) rfl h10 ?_
    refine mGo.steps 2 (c' := (61, List.drop 10 mC61, [.ref p0, .int s.1], [.int 60, .int s.1], s.2)) rfl ?_
    rcases mIte hr with ⟨h9, hr⟩ | ⟨h9, hr⟩
    · refine gBrT (p := 60 ≤ s.1) (y := 61) (is := List.drop 11 mC61) (L := [.ref p0, .int s.1]) (st := []) (μ := s.2) (t := 41) rfl h9 ?_
      obtain rfl := Option.some.inj hr
      exact hC (.int s.1) rfl
    · refine gBrF (p := 60 ≤ s.1) (y := 61) (is := List.drop 11 mC61) (L := [.ref p0, .int s.1]) (st := []) (μ := s.2) (t := 41) rfl h9 ?_
      refine mGo.steps 2 (c' := (61, List.drop 13 mC61, [.ref p0, .int s.1], [.ref p0, .ref p0], s.2)) rfl ?_
      refine gGet (is := List.drop 14 mC61) (v := .ref (mP s.2 p0 0)) h4 rfl ?_
      refine mGo.steps 1 (c' := (61, List.drop 15 mC61, [.ref p0, .int s.1], [.int s.1, .ref (mP s.2 p0 0), .ref p0], s.2)) rfl ?_
      obtain ⟨h5, hr⟩ := mIf hr
      refine gIald (is := List.drop 16 mC61) h5 ?_
      obtain ⟨q6, h7, hr⟩ := mBi hr
      refine gCall (z := 63) (n := 1) (f := 0) (kind := 1) (a := p0) (As := [.int (mI s.2 (mP s.2 p0 0) (Int32.toNatClampNeg s.1))]) (y := 61) (is := List.drop 17 mC61) (L := [.ref p0, .int s.1]) (rest := []) (μ := s.2) rfl (by decide) (by decide) ⟨rfl, rfl⟩ rfl h4 (Nat.le_of_ble_eq_true rfl) (Nat.le_of_ble_eq_true rfl) (t63 h7) ?_
      rcases mIte hr with ⟨h8, hr⟩ | ⟨h8, hr⟩
      · refine gBrT (p := ¬ q6.1 = 0) (y := 61) (is := List.drop 18 mC61) (L := [.ref p0, .int s.1]) (st := []) (μ := q6.2) (t := 35) rfl h8 ?_
        refine mGo.steps 2 (c' := (61, List.drop 4 mC61, [.ref p0, .int (s.1 + 1)], [], q6.2)) rfl ?_
        obtain rfl := Option.some.inj hr
        exact hC
      · refine gBrF (p := ¬ q6.1 = 0) (y := 61) (is := List.drop 18 mC61) (L := [.ref p0, .int s.1]) (st := []) (μ := q6.2) (t := 35) rfl h8 ?_
        refine mGo.steps 1 (c' := (61, List.drop 19 mC61, [.ref p0, .int s.1], [.int s.1], q6.2)) rfl ?_
        obtain rfl := Option.some.inj hr
        rw [show r = _ from hC]
        exact gIret rfl
theorem t61L4l (p0 : Nat) {r : Option Value × mM} (n : Nat) (s : Int32 × mM) (o : (mM) ⊕ (Int32 × mM)) (hr : mLoop (s61L4 p0) n s = some o) (hC : Sum.elim (fun x : mM => ∀ (w1 : Value) (hw1 : mNotL w1 = true), mGo mG (61, List.drop 22 mC61, [.ref p0, w1], [], x) r) (fun y : (Int32 × mM) => r = (some (.int y.1), y.2)) o) : mGo mG (61, List.drop 4 mC61, [.ref p0, .int s.1], [], s.2) r :=
  mLoop_go (Hd := (fun s' : Int32 × mM => mGo mG (61, List.drop 4 mC61, [.ref p0, .int s'.1], [], s'.2) r)) (fun s o hb hC => t61L4 p0 s o hb hC) n s o hr hC
def s61_32 (a0 : Nat) (μ : mM) (t0 : Int32) : Option (Int32 × mM) :=
  some (t0, μ)
set_option maxRecDepth 20000 in
theorem t61_32 (a0 : Nat) (μ : mM) (t0 : Int32) (w0 : Value) (hw0 : mNotL w0 = true) (w1 : Value) (hw1 : mNotL w1 = true) {o : (Int32 × mM)} {r : Option Value × mM} (hr : s61_32 a0 μ t0 = some o) (hC : r = (some (.int o.1), o.2)) : mGo mG (61, List.drop 32 mC61, [w0, w1], [.int t0], μ) r := by
  unfold s61_32 at hr
  obtain rfl := Option.some.inj hr
  rw [show r = _ from hC]
  exact gIret rfl
def s61_28 (a0 : Nat) (μ : mM) : Option (Int32 × mM) :=
  if (mS μ a0).1 = 3 then s61_32 a0 μ (mI μ a0 1) else none
set_option maxRecDepth 20000 in
theorem t61_28 (a0 : Nat) (μ : mM) (w1 : Value) (hw1 : mNotL w1 = true) {o : (Int32 × mM)} {r : Option Value × mM} (hr : s61_28 a0 μ = some o) (hC : r = (some (.int o.1), o.2)) : mGo mG (61, List.drop 28 mC61, [.ref a0, w1], [], μ) r := by
  unfold s61_28 at hr
  refine mGo.steps 1 (c' := (61, List.drop 29 mC61, [.ref a0, w1], [.ref a0], μ)) rfl ?_
  obtain ⟨h16, hr⟩ := mIf hr
  refine gGet (is := List.drop 30 mC61) (v := .int (mI μ a0 1)) h16 rfl ?_
  refine mGo.steps 1 (c' := (61, List.drop 32 mC61, [.ref a0, w1], [.int (mI μ a0 1)], μ)) rfl ?_
  exact t61_32 a0 μ (mI μ a0 1) (.ref a0) rfl w1 hw1 hr hC
def s61_22 (a0 : Nat) (μ : mM) : Option (Int32 × mM) :=
  if (mS μ a0).1 = 3 then if ¬ (mI μ a0 10) = 0 then (s61_28 a0 μ) else (if (mI μ a0 9) = 0 then (s61_32 a0 μ (-10)) else (s61_28 a0 μ)) else none
set_option maxRecDepth 20000 in
theorem t61_22 (a0 : Nat) (μ : mM) (w1 : Value) (hw1 : mNotL w1 = true) {o : (Int32 × mM)} {r : Option Value × mM} (hr : s61_22 a0 μ = some o) (hC : r = (some (.int o.1), o.2)) : mGo mG (61, List.drop 22 mC61, [.ref a0, w1], [], μ) r := by
  unfold s61_22 at hr
  refine mGo.steps 1 (c' := (61, List.drop 23 mC61, [.ref a0, w1], [.ref a0], μ)) rfl ?_
  obtain ⟨h15, hr⟩ := mIf hr
  refine gGet (is := List.drop 24 mC61) (v := .int (mI μ a0 10)) h15 rfl ?_
  rcases mIte hr with ⟨h18, hr⟩ | ⟨h18, hr⟩
  · refine gBrT (p := ¬ (mI μ a0 10) = 0) (y := 61) (is := List.drop 25 mC61) (L := [.ref a0, w1]) (st := []) (μ := μ) (t := 55) rfl h18 ?_
    exact t61_28 a0 μ w1 hw1 hr hC
  · refine gBrF (p := ¬ (mI μ a0 10) = 0) (y := 61) (is := List.drop 25 mC61) (L := [.ref a0, w1]) (st := []) (μ := μ) (t := 55) rfl h18 ?_
    refine mGo.steps 1 (c' := (61, List.drop 26 mC61, [.ref a0, w1], [.ref a0], μ)) rfl ?_
    refine gGet (is := List.drop 27 mC61) (v := .int (mI μ a0 9)) h15 rfl ?_
    rcases mIte hr with ⟨h17, hr⟩ | ⟨h17, hr⟩
    · refine gBrT (p := (mI μ a0 9) = 0) (y := 61) (is := List.drop 28 mC61) (L := [.ref a0, w1]) (st := []) (μ := μ) (t := 62) rfl h17 ?_
      refine mGo.steps 1 (c' := (61, List.drop 32 mC61, [.ref a0, w1], [.int (-10)], μ)) rfl ?_
      exact t61_32 a0 μ (-10) (.ref a0) rfl w1 hw1 hr hC
    · refine gBrF (p := (mI μ a0 9) = 0) (y := 61) (is := List.drop 28 mC61) (L := [.ref a0, w1]) (st := []) (μ := μ) (t := 62) rfl h17 ?_
      exact t61_28 a0 μ w1 hw1 hr hC
def s61 (μ : mM) (a0 : Nat) : Option (Int32 × mM) :=
  if (mS μ a0).1 = 3 then (s62 μ a0).bind fun q2 => (mLoop (s61L4 a0) 1000 (0, q2)).bind fun o11 => Sum.elim (fun x12 => s61_22 a0 x12) (fun y13 => some y13) o11 else none
set_option maxRecDepth 20000 in
theorem t61 {μ : mM} {a0 : Nat} {o : (Int32 × mM)} (hr : s61 μ a0 = some o) : mEv mG 61 [.ref a0] μ (some (.int o.1)) (o.2) := by
  obtain ⟨r, hC⟩ : ∃ r : Option Value × mM, r = (some (.int o.1), o.2) := ⟨_, rfl⟩
  show mGo mG (61, List.drop 0 mC61, [.ref a0, .retAddr 0], [], μ) (some (.int o.1), o.2)
  rw [← hC]
  unfold s61 at hr
  refine mGo.steps 1 (c' := (61, List.drop 1 mC61, [.ref a0, .retAddr 0], [.ref a0], μ)) rfl ?_
  obtain ⟨h1, hr⟩ := mIf hr
  obtain ⟨q2, h3, hr⟩ := mBi hr
  refine gCall (z := 62) (n := 0) (f := 0) (kind := 1) (a := a0) (As := []) (y := 61) (is := List.drop 2 mC61) (L := [.ref a0, .retAddr 0]) (rest := []) (μ := μ) rfl (by decide) (by decide) ⟨rfl, rfl⟩ rfl h1 (Nat.le_of_ble_eq_true rfl) (Nat.le_of_ble_eq_true rfl) (t62 h3) ?_
  refine mGo.steps 2 (c' := (61, List.drop 4 mC61, [.ref a0, .int 0], [], q2)) rfl ?_
  obtain ⟨o11, h14, hr⟩ := mBi hr
  refine t61L4l a0 1000 (0, q2) o11 h14 ?_ 
  cases o11 with
  | inl x12 =>
    show ∀ (w1 : Value) (hw1 : mNotL w1 = true), mGo mG (61, List.drop 22 mC61, [.ref a0, w1], [], x12) r
    intro w1 hw1
    replace hr : (_) = some _ := hr
    exact t61_22 a0 x12 w1 hw1 hr hC
  | inr y13 =>
    obtain rfl := Option.some.inj hr
    exact hC

/-! 71: TunnelFabric$Shares.<init>()V -/
def s71 (μ : mM) (a0 : Nat) : Option mM :=
  if ¬ a0 = 0 then (some (mNew μ 11 (Int32.toNatClampNeg 8))).bind fun μ2 => if (mS μ2 a0).1 = 5 then (some (mUP μ2 a0 0 (mNx μ))).bind fun μ4 => (some (mNew μ4 11 (Int32.toNatClampNeg 10))).bind fun μ5 => if (mS μ5 a0).1 = 5 then (some (mUP μ5 a0 1 (mNx μ4))).bind fun μ7 => (some (mNew μ7 12 (Int32.toNatClampNeg 10))).bind fun μ8 => if (mS μ8 a0).1 = 5 then (some (mUP μ8 a0 2 (mNx μ7))).bind fun μ10 => some μ10 else none else none else none else none
set_option maxRecDepth 20000 in
theorem t71 {μ : mM} {a0 : Nat} {o : mM} (hr : s71 μ a0 = some o) : mEv mG 71 [.ref a0] μ (none) (o) := by
  obtain ⟨r, hC⟩ : ∃ r : Option Value × mM, r = (none, o) := ⟨_, rfl⟩
  show mGo mG (71, List.drop 0 mC71, [.ref a0], [], μ) (none, o)
  rw [← hC]
  unfold s71 at hr
  refine mGo.steps 1 (c' := (71, List.drop 1 mC71, [.ref a0], [.ref a0], μ)) rfl ?_
  obtain ⟨h1, hr⟩ := mIf hr
  refine gObj (is := List.drop 2 mC71) h1 (Nat.le_of_ble_eq_true rfl) ?_
  refine mGo.steps 2 (c' := (71, List.drop 4 mC71, [.ref a0], [.int 8, .ref a0], μ)) rfl ?_
  replace hr := mBs hr
  refine mGo.steps 1 (c' := (71, List.drop 5 mC71, [.ref a0], [.ref (mNx μ), .ref a0], (mNew μ 11 (Int32.toNatClampNeg 8)))) rfl ?_
  let μ2 : mM := mNew μ 11 (Int32.toNatClampNeg 8)
  obtain ⟨h3, hr⟩ := mIf hr
  replace hr := mBs hr
  refine gPut (is := List.drop 6 mC71) (μ' := mUP μ2 a0 0 (mNx μ)) h3 rfl ?_
  let μ4 : mM := mUP μ2 a0 0 (mNx μ)
  refine mGo.steps 2 (c' := (71, List.drop 8 mC71, [.ref a0], [.int 10, .ref a0], μ4)) rfl ?_
  replace hr := mBs hr
  refine mGo.steps 1 (c' := (71, List.drop 9 mC71, [.ref a0], [.ref (mNx μ4), .ref a0], (mNew μ4 11 (Int32.toNatClampNeg 10)))) rfl ?_
  let μ5 : mM := mNew μ4 11 (Int32.toNatClampNeg 10)
  obtain ⟨h6, hr⟩ := mIf hr
  replace hr := mBs hr
  refine gPut (is := List.drop 10 mC71) (μ' := mUP μ5 a0 1 (mNx μ4)) h6 rfl ?_
  let μ7 : mM := mUP μ5 a0 1 (mNx μ4)
  refine mGo.steps 2 (c' := (71, List.drop 12 mC71, [.ref a0], [.int 10, .ref a0], μ7)) rfl ?_
  replace hr := mBs hr
  refine mGo.steps 1 (c' := (71, List.drop 13 mC71, [.ref a0], [.ref (mNx μ7), .ref a0], (mNew μ7 12 (Int32.toNatClampNeg 10)))) rfl ?_
  let μ8 : mM := mNew μ7 12 (Int32.toNatClampNeg 10)
  obtain ⟨h9, hr⟩ := mIf hr
  replace hr := mBs hr
  refine gPut (is := List.drop 14 mC71) (μ' := mUP μ8 a0 2 (mNx μ7)) h9 rfl ?_
  let μ10 : mM := mUP μ8 a0 2 (mNx μ7)
  obtain rfl := Option.some.inj hr
  rw [show r = _ from hC]
  exact gVret rfl

/-! 74: TunnelFabric$Shares.activeWeight(LTunnelFabric$Fabric;I)I -/
def s74L4_27 (μ : mM) (p0 : Nat) (p1 : Nat) (p2 : Int32) (v3 : Int32) (v4 : Int32) : Option ((Int32 × Int32) ⊕ ((Int32) ⊕ Int32)) :=
  some (.inl (v3, v4 + 1))
set_option maxRecDepth 20000 in
theorem t74L4_27 (μ : mM) (p0 : Nat) (p1 : Nat) (p2 : Int32) (v3 : Int32) (v4 : Int32) {o : ((Int32 × Int32) ⊕ ((Int32) ⊕ Int32))} {r : Option Value × mM} (hr : s74L4_27 μ p0 p1 p2 v3 v4 = some o) (hC : Sum.elim (fun s' : Int32 × Int32 => mGo mG (74, List.drop 4 mC74, [.ref p0, .ref p1, .int p2, .int s'.1, .int s'.2], [], μ) r) (Sum.elim (fun x : Int32 => ∀ (w0 : Value) (hw0 : mNotL w0 = true) (w1 : Value) (hw1 : mNotL w1 = true) (w2 : Value) (hw2 : mNotL w2 = true) (w4 : Value) (hw4 : mNotL w4 = true), mGo mG (74, List.drop 29 mC74, [w0, w1, w2, .int x, w4], [], μ) r) (fun y : Int32 => r = (some (.int y), μ))) o) : mGo mG (74, List.drop 27 mC74, [.ref p0, .ref p1, .int p2, .int v3, .int v4], [], μ) r := by
  unfold s74L4_27 at hr
  refine mGo.steps 2 (c' := (74, List.drop 4 mC74, [.ref p0, .ref p1, .int p2, .int v3, .int (v4 + 1)], [], μ)) rfl ?_
  obtain rfl := Option.some.inj hr
  exact hC
def s74L4 (μ : mM) (p0 : Nat) (p1 : Nat) (p2 : Int32) (s : Int32 × Int32) : Option ((Int32 × Int32) ⊕ ((Int32) ⊕ Int32)) :=
  if 10 ≤ s.2 then (some (.inr (.inl s.1))) else (if (mS μ p0).1 = 5 then if (mS μ (mP μ p0 2)).1 = 12 ∧ mInb s.2 (mS μ (mP μ p0 2)).2 then if (mI μ (mP μ p0 2) (Int32.toNatClampNeg s.2)) = 0 then (s74L4_27 μ p0 p1 p2 s.1 s.2) else (if (mS μ p1).1 = 1 then if (mS μ (mP μ p1 1)).1 = 20 + 6 ∧ mInb s.2 (mS μ (mP μ p1 1)).2 then if (mS μ (mP μ (mP μ p1 1) (Int32.toNatClampNeg s.2))).1 = 6 then (s79 μ (mP μ (mP μ p1 1) (Int32.toNatClampNeg s.2)) p2).bind fun q6 => if q6 = 0 then (s74L4_27 μ p0 p1 p2 s.1 s.2) else ((s82 μ (mP μ (mP μ p1 1) (Int32.toNatClampNeg s.2))).bind fun q8 => s74L4_27 μ p0 p1 p2 (s.1 + q8) s.2) else none else none else none) else none else none)
set_option maxRecDepth 20000 in
theorem t74L4 (μ : mM) (p0 : Nat) (p1 : Nat) (p2 : Int32) {r : Option Value × mM} (s : Int32 × Int32) (o : ((Int32 × Int32) ⊕ ((Int32) ⊕ Int32))) (hr : s74L4 μ p0 p1 p2 s = some o) (hC : Sum.elim (fun s' : Int32 × Int32 => mGo mG (74, List.drop 4 mC74, [.ref p0, .ref p1, .int p2, .int s'.1, .int s'.2], [], μ) r) (Sum.elim (fun x : Int32 => ∀ (w0 : Value) (hw0 : mNotL w0 = true) (w1 : Value) (hw1 : mNotL w1 = true) (w2 : Value) (hw2 : mNotL w2 = true) (w4 : Value) (hw4 : mNotL w4 = true), mGo mG (74, List.drop 29 mC74, [w0, w1, w2, .int x, w4], [], μ) r) (fun y : Int32 => r = (some (.int y), μ))) o) : mGo mG (74, List.drop 4 mC74, [.ref p0, .ref p1, .int p2, .int s.1, .int s.2], [], μ) r := by
  unfold s74L4 at hr
  refine mGo.steps 2 (c' := (74, List.drop 6 mC74, [.ref p0, .ref p1, .int p2, .int s.1, .int s.2], [.int 10, .int s.2], μ)) rfl ?_
  rcases mIte hr with ⟨h12, hr⟩ | ⟨h12, hr⟩
  · refine gBrT (p := 10 ≤ s.2) (y := 74) (is := List.drop 7 mC74) (L := [.ref p0, .ref p1, .int p2, .int s.1, .int s.2]) (st := []) (μ := μ) (t := 55) rfl h12 ?_
    obtain rfl := Option.some.inj hr
    exact hC (.ref p0) rfl (.ref p1) rfl (.int p2) rfl (.int s.2) rfl
  · refine gBrF (p := 10 ≤ s.2) (y := 74) (is := List.drop 7 mC74) (L := [.ref p0, .ref p1, .int p2, .int s.1, .int s.2]) (st := []) (μ := μ) (t := 55) rfl h12 ?_
    refine mGo.steps 1 (c' := (74, List.drop 8 mC74, [.ref p0, .ref p1, .int p2, .int s.1, .int s.2], [.ref p0], μ)) rfl ?_
    obtain ⟨h1, hr⟩ := mIf hr
    refine gGet (is := List.drop 9 mC74) (v := .ref (mP μ p0 2)) h1 rfl ?_
    refine mGo.steps 1 (c' := (74, List.drop 10 mC74, [.ref p0, .ref p1, .int p2, .int s.1, .int s.2], [.int s.2, .ref (mP μ p0 2)], μ)) rfl ?_
    obtain ⟨h2, hr⟩ := mIf hr
    refine gBald (is := List.drop 11 mC74) h2 ?_
    rcases mIte hr with ⟨h11, hr⟩ | ⟨h11, hr⟩
    · refine gBrT (p := (mI μ (mP μ p0 2) (Int32.toNatClampNeg s.2)) = 0) (y := 74) (is := List.drop 12 mC74) (L := [.ref p0, .ref p1, .int p2, .int s.1, .int s.2]) (st := []) (μ := μ) (t := 49) rfl h11 ?_
      exact t74L4_27 μ p0 p1 p2 s.1 s.2 hr hC
    · refine gBrF (p := (mI μ (mP μ p0 2) (Int32.toNatClampNeg s.2)) = 0) (y := 74) (is := List.drop 12 mC74) (L := [.ref p0, .ref p1, .int p2, .int s.1, .int s.2]) (st := []) (μ := μ) (t := 49) rfl h11 ?_
      refine mGo.steps 1 (c' := (74, List.drop 13 mC74, [.ref p0, .ref p1, .int p2, .int s.1, .int s.2], [.ref p1], μ)) rfl ?_
      obtain ⟨h3, hr⟩ := mIf hr
      refine gGet (is := List.drop 14 mC74) (v := .ref (mP μ p1 1)) h3 rfl ?_
      refine mGo.steps 1 (c' := (74, List.drop 15 mC74, [.ref p0, .ref p1, .int p2, .int s.1, .int s.2], [.int s.2, .ref (mP μ p1 1)], μ)) rfl ?_
      obtain ⟨h4, hr⟩ := mIf hr
      refine gAald (is := List.drop 16 mC74) h4 ?_
      refine mGo.steps 1 (c' := (74, List.drop 17 mC74, [.ref p0, .ref p1, .int p2, .int s.1, .int s.2], [.int p2, .ref (mP μ (mP μ p1 1) (Int32.toNatClampNeg s.2))], μ)) rfl ?_
      obtain ⟨h5, hr⟩ := mIf hr
      obtain ⟨q6, h7, hr⟩ := mBi hr
      refine gCall (z := 79) (n := 1) (f := 0) (kind := 1) (a := (mP μ (mP μ p1 1) (Int32.toNatClampNeg s.2))) (As := [.int p2]) (y := 74) (is := List.drop 18 mC74) (L := [.ref p0, .ref p1, .int p2, .int s.1, .int s.2]) (rest := []) (μ := μ) rfl (by decide) (by decide) ⟨rfl, rfl⟩ rfl h5 (Nat.le_of_ble_eq_true rfl) (Nat.le_of_ble_eq_true rfl) (t79 h7) ?_
      rcases mIte hr with ⟨h10, hr⟩ | ⟨h10, hr⟩
      · refine gBrT (p := q6 = 0) (y := 74) (is := List.drop 19 mC74) (L := [.ref p0, .ref p1, .int p2, .int s.1, .int s.2]) (st := []) (μ := μ) (t := 49) rfl h10 ?_
        exact t74L4_27 μ p0 p1 p2 s.1 s.2 hr hC
      · refine gBrF (p := q6 = 0) (y := 74) (is := List.drop 19 mC74) (L := [.ref p0, .ref p1, .int p2, .int s.1, .int s.2]) (st := []) (μ := μ) (t := 49) rfl h10 ?_
        refine mGo.steps 2 (c' := (74, List.drop 21 mC74, [.ref p0, .ref p1, .int p2, .int s.1, .int s.2], [.ref p1, .int s.1], μ)) rfl ?_
        refine gGet (is := List.drop 22 mC74) (v := .ref (mP μ p1 1)) h3 rfl ?_
        refine mGo.steps 1 (c' := (74, List.drop 23 mC74, [.ref p0, .ref p1, .int p2, .int s.1, .int s.2], [.int s.2, .ref (mP μ p1 1), .int s.1], μ)) rfl ?_
        refine gAald (is := List.drop 24 mC74) h4 ?_
        obtain ⟨q8, h9, hr⟩ := mBi hr
        refine gCall (z := 82) (n := 0) (f := 0) (kind := 1) (a := (mP μ (mP μ p1 1) (Int32.toNatClampNeg s.2))) (As := []) (y := 74) (is := List.drop 25 mC74) (L := [.ref p0, .ref p1, .int p2, .int s.1, .int s.2]) (rest := [.int s.1]) (μ := μ) rfl (by decide) (by decide) ⟨rfl, rfl⟩ rfl h5 (Nat.le_of_ble_eq_true rfl) (Nat.le_of_ble_eq_true rfl) (t82 h9) ?_
        refine mGo.steps 2 (c' := (74, List.drop 27 mC74, [.ref p0, .ref p1, .int p2, .int (s.1 + q8), .int s.2], [], μ)) rfl ?_
        exact t74L4_27 μ p0 p1 p2 (s.1 + q8) s.2 hr hC
theorem t74L4l (μ : mM) (p0 : Nat) (p1 : Nat) (p2 : Int32) {r : Option Value × mM} (n : Nat) (s : Int32 × Int32) (o : (Int32) ⊕ Int32) (hr : mLoop (s74L4 μ p0 p1 p2) n s = some o) (hC : Sum.elim (fun x : Int32 => ∀ (w0 : Value) (hw0 : mNotL w0 = true) (w1 : Value) (hw1 : mNotL w1 = true) (w2 : Value) (hw2 : mNotL w2 = true) (w4 : Value) (hw4 : mNotL w4 = true), mGo mG (74, List.drop 29 mC74, [w0, w1, w2, .int x, w4], [], μ) r) (fun y : Int32 => r = (some (.int y), μ)) o) : mGo mG (74, List.drop 4 mC74, [.ref p0, .ref p1, .int p2, .int s.1, .int s.2], [], μ) r :=
  mLoop_go (Hd := (fun s' : Int32 × Int32 => mGo mG (74, List.drop 4 mC74, [.ref p0, .ref p1, .int p2, .int s'.1, .int s'.2], [], μ) r)) (fun s o hb hC => t74L4 μ p0 p1 p2 s o hb hC) n s o hr hC
def s74 (μ : mM) (a0 : Nat) (a1 : Nat) (a2 : Int32) : Option Int32 :=
  (mLoop (s74L4 μ a0 a1 a2) 1000 (0, 0)).bind fun o13 => Sum.elim (fun x14 => some x14) (fun y15 => some y15) o13
set_option maxRecDepth 20000 in
theorem t74 {μ : mM} {a0 : Nat} {a1 : Nat} {a2 : Int32} {o : Int32} (hr : s74 μ a0 a1 a2 = some o) : mEv mG 74 [.ref a0, .ref a1, .int a2] μ (some (.int o)) (μ) := by
  obtain ⟨r, hC⟩ : ∃ r : Option Value × mM, r = (some (.int o), μ) := ⟨_, rfl⟩
  show mGo mG (74, List.drop 0 mC74, [.ref a0, .ref a1, .int a2, .retAddr 0, .retAddr 0], [], μ) (some (.int o), μ)
  rw [← hC]
  unfold s74 at hr
  refine mGo.steps 4 (c' := (74, List.drop 4 mC74, [.ref a0, .ref a1, .int a2, .int 0, .int 0], [], μ)) rfl ?_
  obtain ⟨o13, h16, hr⟩ := mBi hr
  refine t74L4l μ a0 a1 a2 1000 (0, 0) o13 h16 ?_ 
  cases o13 with
  | inl x14 =>
    show ∀ (w0 : Value) (hw0 : mNotL w0 = true) (w1 : Value) (hw1 : mNotL w1 = true) (w2 : Value) (hw2 : mNotL w2 = true) (w4 : Value) (hw4 : mNotL w4 = true), mGo mG (74, List.drop 29 mC74, [w0, w1, w2, .int x14, w4], [], μ) r
    intro w0 hw0 w1 hw1 w2 hw2 w4 hw4
    replace hr : (_) = some _ := hr
    refine mGo.steps 1 (c' := (74, List.drop 30 mC74, [w0, w1, w2, .int x14, w4], [.int x14], μ)) rfl ?_
    obtain rfl := Option.some.inj hr
    rw [show r = _ from hC]
    exact gIret rfl
  | inr y15 =>
    obtain rfl := Option.some.inj hr
    exact hC

/-! 73: TunnelFabric$Shares.chooseLink(LTunnelFabric$Fabric;)I -/
def s73L7_38 (p0 : Nat) (p1 : Nat) (μ : mM) (v2 : Int32) (v3 : Int32) : Option ((Int32 × Int32 × mM) ⊕ ((Int32 × mM) ⊕ (Int32 × mM))) :=
  some (.inl (v2, v3 + 1, μ))
set_option maxRecDepth 20000 in
theorem t73L7_38 (p0 : Nat) (p1 : Nat) (μ : mM) (v2 : Int32) (v3 : Int32) (w4 : Value) (hw4 : mNotL w4 = true) (w5 : Value) (hw5 : mNotL w5 = true) {o : ((Int32 × Int32 × mM) ⊕ ((Int32 × mM) ⊕ (Int32 × mM)))} {r : Option Value × mM} (hr : s73L7_38 p0 p1 μ v2 v3 = some o) (hC : Sum.elim (fun s' : Int32 × Int32 × mM => ∀ (w4 : Value) (hw4 : mNotL w4 = true) (w5 : Value) (hw5 : mNotL w5 = true), mGo mG (73, List.drop 7 mC73, [.ref p0, .ref p1, .int s'.1, .int s'.2.1, w4, w5], [], s'.2.2) r) (Sum.elim (fun x : Int32 × mM => ∀ (w0 : Value) (hw0 : mNotL w0 = true) (w1 : Value) (hw1 : mNotL w1 = true) (w3 : Value) (hw3 : mNotL w3 = true) (w4 : Value) (hw4 : mNotL w4 = true) (w5 : Value) (hw5 : mNotL w5 = true), mGo mG (73, List.drop 40 mC73, [w0, w1, .int x.1, w3, w4, w5], [], x.2) r) (fun y : (Int32 × mM) => r = (some (.int y.1), y.2))) o) : mGo mG (73, List.drop 38 mC73, [.ref p0, .ref p1, .int v2, .int v3, w4, w5], [], μ) r := by
  unfold s73L7_38 at hr
  refine mGo.steps 2 (c' := (73, List.drop 7 mC73, [.ref p0, .ref p1, .int v2, .int (v3 + 1), w4, w5], [], μ)) rfl ?_
  obtain rfl := Option.some.inj hr
  exact hC w4 hw4 w5 hw5
def s73L7_33 (p0 : Nat) (p1 : Nat) (μ : mM) (v3 : Int32) (v5 : UInt32) : Option ((Int32 × Int32 × mM) ⊕ ((Int32 × mM) ⊕ (Int32 × mM))) :=
  if (mS μ p0).1 = 5 then (some (mUF μ p0 3 v5)).bind fun μ9 => s73L7_38 p0 p1 μ9 v3 v3 else none
set_option maxRecDepth 20000 in
theorem t73L7_33 (p0 : Nat) (p1 : Nat) (μ : mM) (v3 : Int32) (v5 : UInt32) (w2 : Value) (hw2 : mNotL w2 = true) (w4 : Value) (hw4 : mNotL w4 = true) {o : ((Int32 × Int32 × mM) ⊕ ((Int32 × mM) ⊕ (Int32 × mM)))} {r : Option Value × mM} (hr : s73L7_33 p0 p1 μ v3 v5 = some o) (hC : Sum.elim (fun s' : Int32 × Int32 × mM => ∀ (w4 : Value) (hw4 : mNotL w4 = true) (w5 : Value) (hw5 : mNotL w5 = true), mGo mG (73, List.drop 7 mC73, [.ref p0, .ref p1, .int s'.1, .int s'.2.1, w4, w5], [], s'.2.2) r) (Sum.elim (fun x : Int32 × mM => ∀ (w0 : Value) (hw0 : mNotL w0 = true) (w1 : Value) (hw1 : mNotL w1 = true) (w3 : Value) (hw3 : mNotL w3 = true) (w4 : Value) (hw4 : mNotL w4 = true) (w5 : Value) (hw5 : mNotL w5 = true), mGo mG (73, List.drop 40 mC73, [w0, w1, .int x.1, w3, w4, w5], [], x.2) r) (fun y : (Int32 × mM) => r = (some (.int y.1), y.2))) o) : mGo mG (73, List.drop 33 mC73, [.ref p0, .ref p1, w2, .int v3, w4, .float v5], [], μ) r := by
  unfold s73L7_33 at hr
  refine mGo.steps 4 (c' := (73, List.drop 37 mC73, [.ref p0, .ref p1, .int v3, .int v3, w4, .float v5], [.float v5, .ref p0], μ)) rfl ?_
  obtain ⟨h8, hr⟩ := mIf hr
  replace hr := mBs hr
  refine gPut (is := List.drop 38 mC73) (μ' := mUF μ p0 3 v5) h8 rfl ?_
  let μ9 : mM := mUF μ p0 3 v5
  exact t73L7_38 p0 p1 μ9 v3 v3 w4 hw4 (.float v5) rfl hr hC
def s73L7 (p0 : Nat) (p1 : Nat) (s : Int32 × Int32 × mM) : Option ((Int32 × Int32 × mM) ⊕ ((Int32 × mM) ⊕ (Int32 × mM))) :=
  if 8 ≤ s.2.1 then (some (.inr (.inl (s.1, s.2.2)))) else (if (mS s.2.2 p0).1 = 5 then (s74 s.2.2 p0 p1 s.2.1).bind fun q4 => if q4 ≤ 0 then (s73L7_38 p0 p1 s.2.2 s.1 s.2.1) else (if (mS s.2.2 (mP s.2.2 p0 0)).1 = 11 ∧ mInb s.2.1 (mS s.2.2 (mP s.2.2 p0 0)).2 then if FP.fdiv (mF s.2.2 (mP s.2.2 p0 0) (Int32.toNatClampNeg s.2.1)) (FP.i2f q4) &&& 0x7fffffff ≤ 0x7f800000 then if s.1 = (-1) then (s73L7_33 p0 p1 s.2.2 s.2.1 (FP.fdiv (mF s.2.2 (mP s.2.2 p0 0) (Int32.toNatClampNeg s.2.1)) (FP.i2f q4))) else (if 0 ≤ (Op.cmpValue (FP.fcmp (FP.fdiv (mF s.2.2 (mP s.2.2 p0 0) (Int32.toNatClampNeg s.2.1)) (FP.i2f q4)) (mF s.2.2 p0 3)) CmpOp.g) then (s73L7_38 p0 p1 s.2.2 s.1 s.2.1) else (s73L7_33 p0 p1 s.2.2 s.2.1 (FP.fdiv (mF s.2.2 (mP s.2.2 p0 0) (Int32.toNatClampNeg s.2.1)) (FP.i2f q4)))) else none else none) else none)
set_option maxRecDepth 20000 in
theorem t73L7 (p0 : Nat) (p1 : Nat) {r : Option Value × mM} (s : Int32 × Int32 × mM) (o : ((Int32 × Int32 × mM) ⊕ ((Int32 × mM) ⊕ (Int32 × mM)))) (hr : s73L7 p0 p1 s = some o) (hC : Sum.elim (fun s' : Int32 × Int32 × mM => ∀ (w4 : Value) (hw4 : mNotL w4 = true) (w5 : Value) (hw5 : mNotL w5 = true), mGo mG (73, List.drop 7 mC73, [.ref p0, .ref p1, .int s'.1, .int s'.2.1, w4, w5], [], s'.2.2) r) (Sum.elim (fun x : Int32 × mM => ∀ (w0 : Value) (hw0 : mNotL w0 = true) (w1 : Value) (hw1 : mNotL w1 = true) (w3 : Value) (hw3 : mNotL w3 = true) (w4 : Value) (hw4 : mNotL w4 = true) (w5 : Value) (hw5 : mNotL w5 = true), mGo mG (73, List.drop 40 mC73, [w0, w1, .int x.1, w3, w4, w5], [], x.2) r) (fun y : (Int32 × mM) => r = (some (.int y.1), y.2))) o) : ∀ (w4 : Value) (hw4 : mNotL w4 = true) (w5 : Value) (hw5 : mNotL w5 = true), mGo mG (73, List.drop 7 mC73, [.ref p0, .ref p1, .int s.1, .int s.2.1, w4, w5], [], s.2.2) r := by
  intro w4 hw4 w5 hw5
  unfold s73L7 at hr
  refine mGo.steps 2 (c' := (73, List.drop 9 mC73, [.ref p0, .ref p1, .int s.1, .int s.2.1, w4, w5], [.int 8, .int s.2.1], s.2.2)) rfl ?_
  rcases mIte hr with ⟨h13, hr⟩ | ⟨h13, hr⟩
  · refine gBrT (p := 8 ≤ s.2.1) (y := 73) (is := List.drop 10 mC73) (L := [.ref p0, .ref p1, .int s.1, .int s.2.1, w4, w5]) (st := []) (μ := s.2.2) (t := 69) rfl h13 ?_
    obtain rfl := Option.some.inj hr
    exact hC (.ref p0) rfl (.ref p1) rfl (.int s.2.1) rfl w4 hw4 w5 hw5
  · refine gBrF (p := 8 ≤ s.2.1) (y := 73) (is := List.drop 10 mC73) (L := [.ref p0, .ref p1, .int s.1, .int s.2.1, w4, w5]) (st := []) (μ := s.2.2) (t := 69) rfl h13 ?_
    refine mGo.steps 3 (c' := (73, List.drop 13 mC73, [.ref p0, .ref p1, .int s.1, .int s.2.1, w4, w5], [.int s.2.1, .ref p1, .ref p0], s.2.2)) rfl ?_
    obtain ⟨h3, hr⟩ := mIf hr
    obtain ⟨q4, h5, hr⟩ := mBi hr
    refine gCall (z := 74) (n := 2) (f := 0) (kind := 1) (a := p0) (As := [.ref p1, .int s.2.1]) (y := 73) (is := List.drop 14 mC73) (L := [.ref p0, .ref p1, .int s.1, .int s.2.1, w4, w5]) (rest := []) (μ := s.2.2) rfl (by decide) (by decide) ⟨rfl, rfl⟩ rfl h3 (Nat.le_of_ble_eq_true rfl) (Nat.le_of_ble_eq_true rfl) (t74 h5) ?_
    refine mGo.steps 2 (c' := (73, List.drop 16 mC73, [.ref p0, .ref p1, .int s.1, .int s.2.1, .int q4, w5], [.int q4], s.2.2)) rfl ?_
    rcases mIte hr with ⟨h12, hr⟩ | ⟨h12, hr⟩
    · refine gBrT (p := q4 ≤ 0) (y := 73) (is := List.drop 17 mC73) (L := [.ref p0, .ref p1, .int s.1, .int s.2.1, .int q4, w5]) (st := []) (μ := s.2.2) (t := 63) rfl h12 ?_
      exact t73L7_38 p0 p1 s.2.2 s.1 s.2.1 (.int q4) rfl w5 hw5 hr hC
    · refine gBrF (p := q4 ≤ 0) (y := 73) (is := List.drop 17 mC73) (L := [.ref p0, .ref p1, .int s.1, .int s.2.1, .int q4, w5]) (st := []) (μ := s.2.2) (t := 63) rfl h12 ?_
      refine mGo.steps 1 (c' := (73, List.drop 18 mC73, [.ref p0, .ref p1, .int s.1, .int s.2.1, .int q4, w5], [.ref p0], s.2.2)) rfl ?_
      refine gGet (is := List.drop 19 mC73) (v := .ref (mP s.2.2 p0 0)) h3 rfl ?_
      refine mGo.steps 1 (c' := (73, List.drop 20 mC73, [.ref p0, .ref p1, .int s.1, .int s.2.1, .int q4, w5], [.int s.2.1, .ref (mP s.2.2 p0 0)], s.2.2)) rfl ?_
      obtain ⟨h6, hr⟩ := mIf hr
      refine gFald (is := List.drop 21 mC73) h6 ?_
      refine mGo.steps 2 (c' := (73, List.drop 23 mC73, [.ref p0, .ref p1, .int s.1, .int s.2.1, .int q4, w5], [.float (FP.i2f q4), .float (mF s.2.2 (mP s.2.2 p0 0) (Int32.toNatClampNeg s.2.1))], s.2.2)) rfl ?_
      obtain ⟨h7, hr⟩ := mIf hr
      refine gFdiv (is := List.drop 24 mC73) h7 ?_
      refine mGo.steps 3 (c' := (73, List.drop 27 mC73, [.ref p0, .ref p1, .int s.1, .int s.2.1, .int q4, .float (FP.fdiv (mF s.2.2 (mP s.2.2 p0 0) (Int32.toNatClampNeg s.2.1)) (FP.i2f q4))], [.int (-1), .int s.1], s.2.2)) rfl ?_
      rcases mIte hr with ⟨h11, hr⟩ | ⟨h11, hr⟩
      · refine gBrT (p := s.1 = (-1)) (y := 73) (is := List.drop 28 mC73) (L := [.ref p0, .ref p1, .int s.1, .int s.2.1, .int q4, .float (FP.fdiv (mF s.2.2 (mP s.2.2 p0 0) (Int32.toNatClampNeg s.2.1)) (FP.i2f q4))]) (st := []) (μ := s.2.2) (t := 55) rfl h11 ?_
        exact t73L7_33 p0 p1 s.2.2 s.2.1 (FP.fdiv (mF s.2.2 (mP s.2.2 p0 0) (Int32.toNatClampNeg s.2.1)) (FP.i2f q4)) (.int s.1) rfl (.int q4) rfl hr hC
      · refine gBrF (p := s.1 = (-1)) (y := 73) (is := List.drop 28 mC73) (L := [.ref p0, .ref p1, .int s.1, .int s.2.1, .int q4, .float (FP.fdiv (mF s.2.2 (mP s.2.2 p0 0) (Int32.toNatClampNeg s.2.1)) (FP.i2f q4))]) (st := []) (μ := s.2.2) (t := 55) rfl h11 ?_
        refine mGo.steps 2 (c' := (73, List.drop 30 mC73, [.ref p0, .ref p1, .int s.1, .int s.2.1, .int q4, .float (FP.fdiv (mF s.2.2 (mP s.2.2 p0 0) (Int32.toNatClampNeg s.2.1)) (FP.i2f q4))], [.ref p0, .float (FP.fdiv (mF s.2.2 (mP s.2.2 p0 0) (Int32.toNatClampNeg s.2.1)) (FP.i2f q4))], s.2.2)) rfl ?_
        refine gGet (is := List.drop 31 mC73) (v := .float (mF s.2.2 p0 3)) h3 rfl ?_
        refine mGo.steps 1 (c' := (73, List.drop 32 mC73, [.ref p0, .ref p1, .int s.1, .int s.2.1, .int q4, .float (FP.fdiv (mF s.2.2 (mP s.2.2 p0 0) (Int32.toNatClampNeg s.2.1)) (FP.i2f q4))], [.int (Op.cmpValue (FP.fcmp (FP.fdiv (mF s.2.2 (mP s.2.2 p0 0) (Int32.toNatClampNeg s.2.1)) (FP.i2f q4)) (mF s.2.2 p0 3)) CmpOp.g)], s.2.2)) rfl ?_
        rcases mIte hr with ⟨h10, hr⟩ | ⟨h10, hr⟩
        · refine gBrT (p := 0 ≤ (Op.cmpValue (FP.fcmp (FP.fdiv (mF s.2.2 (mP s.2.2 p0 0) (Int32.toNatClampNeg s.2.1)) (FP.i2f q4)) (mF s.2.2 p0 3)) CmpOp.g)) (y := 73) (is := List.drop 33 mC73) (L := [.ref p0, .ref p1, .int s.1, .int s.2.1, .int q4, .float (FP.fdiv (mF s.2.2 (mP s.2.2 p0 0) (Int32.toNatClampNeg s.2.1)) (FP.i2f q4))]) (st := []) (μ := s.2.2) (t := 63) rfl h10 ?_
          exact t73L7_38 p0 p1 s.2.2 s.1 s.2.1 (.int q4) rfl (.float (FP.fdiv (mF s.2.2 (mP s.2.2 p0 0) (Int32.toNatClampNeg s.2.1)) (FP.i2f q4))) rfl hr hC
        · refine gBrF (p := 0 ≤ (Op.cmpValue (FP.fcmp (FP.fdiv (mF s.2.2 (mP s.2.2 p0 0) (Int32.toNatClampNeg s.2.1)) (FP.i2f q4)) (mF s.2.2 p0 3)) CmpOp.g)) (y := 73) (is := List.drop 33 mC73) (L := [.ref p0, .ref p1, .int s.1, .int s.2.1, .int q4, .float (FP.fdiv (mF s.2.2 (mP s.2.2 p0 0) (Int32.toNatClampNeg s.2.1)) (FP.i2f q4))]) (st := []) (μ := s.2.2) (t := 63) rfl h10 ?_
          exact t73L7_33 p0 p1 s.2.2 s.2.1 (FP.fdiv (mF s.2.2 (mP s.2.2 p0 0) (Int32.toNatClampNeg s.2.1)) (FP.i2f q4)) (.int s.1) rfl (.int q4) rfl hr hC
theorem t73L7l (p0 : Nat) (p1 : Nat) {r : Option Value × mM} (n : Nat) (s : Int32 × Int32 × mM) (o : (Int32 × mM) ⊕ (Int32 × mM)) (hr : mLoop (s73L7 p0 p1) n s = some o) (hC : Sum.elim (fun x : Int32 × mM => ∀ (w0 : Value) (hw0 : mNotL w0 = true) (w1 : Value) (hw1 : mNotL w1 = true) (w3 : Value) (hw3 : mNotL w3 = true) (w4 : Value) (hw4 : mNotL w4 = true) (w5 : Value) (hw5 : mNotL w5 = true), mGo mG (73, List.drop 40 mC73, [w0, w1, .int x.1, w3, w4, w5], [], x.2) r) (fun y : (Int32 × mM) => r = (some (.int y.1), y.2)) o) : ∀ (w4 : Value) (hw4 : mNotL w4 = true) (w5 : Value) (hw5 : mNotL w5 = true), mGo mG (73, List.drop 7 mC73, [.ref p0, .ref p1, .int s.1, .int s.2.1, w4, w5], [], s.2.2) r :=
  mLoop_go (Hd := (fun s' : Int32 × Int32 × mM => ∀ (w4 : Value) (hw4 : mNotL w4 = true) (w5 : Value) (hw5 : mNotL w5 = true), mGo mG (73, List.drop 7 mC73, [.ref p0, .ref p1, .int s'.1, .int s'.2.1, w4, w5], [], s'.2.2) r)) (fun s o hb hC => t73L7 p0 p1 s o hb hC) n s o hr hC
def s73 (μ : mM) (a0 : Nat) (a1 : Nat) : Option (Int32 × mM) :=
  if (mS μ a0).1 = 5 then (some (mUF μ a0 3 FP.fconst0)).bind fun μ2 => (mLoop (s73L7 a0 a1) 1000 ((-1), 1, μ2)).bind fun o14 => Sum.elim (fun x15 => some (x15.1, x15.2)) (fun y16 => some y16) o14 else none
set_option maxRecDepth 20000 in
theorem t73 {μ : mM} {a0 : Nat} {a1 : Nat} {o : (Int32 × mM)} (hr : s73 μ a0 a1 = some o) : mEv mG 73 [.ref a0, .ref a1] μ (some (.int o.1)) (o.2) := by
  obtain ⟨r, hC⟩ : ∃ r : Option Value × mM, r = (some (.int o.1), o.2) := ⟨_, rfl⟩
  show mGo mG (73, List.drop 0 mC73, [.ref a0, .ref a1, .retAddr 0, .retAddr 0, .retAddr 0, .retAddr 0], [], μ) (some (.int o.1), o.2)
  rw [← hC]
  unfold s73 at hr
  refine mGo.steps 4 (c' := (73, List.drop 4 mC73, [.ref a0, .ref a1, .int (-1), .retAddr 0, .retAddr 0, .retAddr 0], [.float FP.fconst0, .ref a0], μ)) rfl ?_
  obtain ⟨h1, hr⟩ := mIf hr
  replace hr := mBs hr
  refine gPut (is := List.drop 5 mC73) (μ' := mUF μ a0 3 FP.fconst0) h1 rfl ?_
  let μ2 : mM := mUF μ a0 3 FP.fconst0
  refine mGo.steps 2 (c' := (73, List.drop 7 mC73, [.ref a0, .ref a1, .int (-1), .int 1, .retAddr 0, .retAddr 0], [], μ2)) rfl ?_
  obtain ⟨o14, h17, hr⟩ := mBi hr
  refine t73L7l a0 a1 1000 ((-1), 1, μ2) o14 h17 ?_ (.retAddr 0) rfl (.retAddr 0) rfl
  cases o14 with
  | inl x15 =>
    show ∀ (w0 : Value) (hw0 : mNotL w0 = true) (w1 : Value) (hw1 : mNotL w1 = true) (w3 : Value) (hw3 : mNotL w3 = true) (w4 : Value) (hw4 : mNotL w4 = true) (w5 : Value) (hw5 : mNotL w5 = true), mGo mG (73, List.drop 40 mC73, [w0, w1, .int x15.1, w3, w4, w5], [], x15.2) r
    intro w0 hw0 w1 hw1 w3 hw3 w4 hw4 w5 hw5
    replace hr : (_) = some _ := hr
    refine mGo.steps 1 (c' := (73, List.drop 41 mC73, [w0, w1, .int x15.1, w3, w4, w5], [.int x15.1], x15.2)) rfl ?_
    obtain rfl := Option.some.inj hr
    rw [show r = _ from hC]
    exact gIret rfl
  | inr y16 =>
    obtain rfl := Option.some.inj hr
    exact hC

/-! 76: TunnelFabric$Shares.takeFromPath(LTunnelFabric$Way;F)V -/
def s76L5_35 (p0 : Nat) (p1 : Nat) (p2 : UInt32) (μ : mM) (v3 : Int32) : Option ((Int32 × mM) ⊕ ((mM) ⊕ mM)) :=
  some (.inl (v3 + (-1), μ))
set_option maxRecDepth 20000 in
theorem t76L5_35 (p0 : Nat) (p1 : Nat) (p2 : UInt32) (μ : mM) (v3 : Int32) (w4 : Value) (hw4 : mNotL w4 = true) (w5 : Value) (hw5 : mNotL w5 = true) {o : ((Int32 × mM) ⊕ ((mM) ⊕ mM))} {r : Option Value × mM} (hr : s76L5_35 p0 p1 p2 μ v3 = some o) (hC : Sum.elim (fun s' : Int32 × mM => ∀ (w4 : Value) (hw4 : mNotL w4 = true) (w5 : Value) (hw5 : mNotL w5 = true), mGo mG (76, List.drop 5 mC76, [.ref p0, .ref p1, .float p2, .int s'.1, w4, w5], [], s'.2) r) (Sum.elim (fun x : mM => ∀ (w0 : Value) (hw0 : mNotL w0 = true) (w1 : Value) (hw1 : mNotL w1 = true) (w2 : Value) (hw2 : mNotL w2 = true) (w3 : Value) (hw3 : mNotL w3 = true) (w4 : Value) (hw4 : mNotL w4 = true) (w5 : Value) (hw5 : mNotL w5 = true), mGo mG (76, List.drop 37 mC76, [w0, w1, w2, w3, w4, w5], [], x) r) (fun y : mM => r = (none, y))) o) : mGo mG (76, List.drop 35 mC76, [.ref p0, .ref p1, .float p2, .int v3, w4, w5], [], μ) r := by
  unfold s76L5_35 at hr
  refine mGo.steps 2 (c' := (76, List.drop 5 mC76, [.ref p0, .ref p1, .float p2, .int (v3 + (-1)), w4, w5], [], μ)) rfl ?_
  obtain rfl := Option.some.inj hr
  exact hC w4 hw4 w5 hw5
def s76L5_34 (p0 : Nat) (p1 : Nat) (p2 : UInt32) (μ : mM) (v3 : Int32) (t0 : UInt32) (t1 : Int32) (t2 : Nat) : Option ((Int32 × mM) ⊕ ((mM) ⊕ mM)) :=
  if (mS μ t2).1 = 11 ∧ mInb t1 (mS μ t2).2 then (some (mUF μ t2 (Int32.toNatClampNeg t1) t0)).bind fun μ8 => s76L5_35 p0 p1 p2 μ8 v3 else none
set_option maxRecDepth 20000 in
theorem t76L5_34 (p0 : Nat) (p1 : Nat) (p2 : UInt32) (μ : mM) (v3 : Int32) (t0 : UInt32) (t1 : Int32) (t2 : Nat) (w4 : Value) (hw4 : mNotL w4 = true) (w5 : Value) (hw5 : mNotL w5 = true) {o : ((Int32 × mM) ⊕ ((mM) ⊕ mM))} {r : Option Value × mM} (hr : s76L5_34 p0 p1 p2 μ v3 t0 t1 t2 = some o) (hC : Sum.elim (fun s' : Int32 × mM => ∀ (w4 : Value) (hw4 : mNotL w4 = true) (w5 : Value) (hw5 : mNotL w5 = true), mGo mG (76, List.drop 5 mC76, [.ref p0, .ref p1, .float p2, .int s'.1, w4, w5], [], s'.2) r) (Sum.elim (fun x : mM => ∀ (w0 : Value) (hw0 : mNotL w0 = true) (w1 : Value) (hw1 : mNotL w1 = true) (w2 : Value) (hw2 : mNotL w2 = true) (w3 : Value) (hw3 : mNotL w3 = true) (w4 : Value) (hw4 : mNotL w4 = true) (w5 : Value) (hw5 : mNotL w5 = true), mGo mG (76, List.drop 37 mC76, [w0, w1, w2, w3, w4, w5], [], x) r) (fun y : mM => r = (none, y))) o) : mGo mG (76, List.drop 34 mC76, [.ref p0, .ref p1, .float p2, .int v3, w4, w5], [.float t0, .int t1, .ref t2], μ) r := by
  unfold s76L5_34 at hr
  obtain ⟨h7, hr⟩ := mIf hr
  replace hr := mBs hr
  refine gFast (is := List.drop 35 mC76) h7 ?_
  let μ8 : mM := mUF μ t2 (Int32.toNatClampNeg t1) t0
  exact t76L5_35 p0 p1 p2 μ8 v3 w4 hw4 w5 hw5 hr hC
def s76L5 (p0 : Nat) (p1 : Nat) (p2 : UInt32) (s : Int32 × mM) : Option ((Int32 × mM) ⊕ ((mM) ⊕ mM)) :=
  if s.1 < 0 then (some (.inr (.inl s.2))) else (if (mS s.2 p1).1 = 7 then if (mS s.2 (mP s.2 p1 4)).1 = 10 ∧ mInb s.1 (mS s.2 (mP s.2 p1 4)).2 then if (mI s.2 (mP s.2 p1 4) (Int32.toNatClampNeg s.1)) ≤ 0 then (s76L5_35 p0 p1 p2 s.2 s.1) else (if 8 ≤ (mI s.2 (mP s.2 p1 4) (Int32.toNatClampNeg s.1)) then (s76L5_35 p0 p1 p2 s.2 s.1) else (if (mS s.2 p0).1 = 5 then if (mS s.2 (mP s.2 p0 0)).1 = 11 ∧ mInb (mI s.2 (mP s.2 p1 4) (Int32.toNatClampNeg s.1)) (mS s.2 (mP s.2 p0 0)).2 then if FP.fsub (mF s.2 (mP s.2 p0 0) (Int32.toNatClampNeg (mI s.2 (mP s.2 p1 4) (Int32.toNatClampNeg s.1)))) p2 &&& 0x7fffffff ≤ 0x7f800000 then if 0 ≤ (Op.cmpValue (FP.fcmp (FP.fsub (mF s.2 (mP s.2 p0 0) (Int32.toNatClampNeg (mI s.2 (mP s.2 p1 4) (Int32.toNatClampNeg s.1)))) p2) FP.fconst0) CmpOp.g) then (s76L5_34 p0 p1 p2 s.2 s.1 (FP.fsub (mF s.2 (mP s.2 p0 0) (Int32.toNatClampNeg (mI s.2 (mP s.2 p1 4) (Int32.toNatClampNeg s.1)))) p2) (mI s.2 (mP s.2 p1 4) (Int32.toNatClampNeg s.1)) (mP s.2 p0 0)) else (s76L5_34 p0 p1 p2 s.2 s.1 FP.fconst0 (mI s.2 (mP s.2 p1 4) (Int32.toNatClampNeg s.1)) (mP s.2 p0 0)) else none else none else none)) else none else none)
set_option maxRecDepth 20000 in
theorem t76L5 (p0 : Nat) (p1 : Nat) (p2 : UInt32) {r : Option Value × mM} (s : Int32 × mM) (o : ((Int32 × mM) ⊕ ((mM) ⊕ mM))) (hr : s76L5 p0 p1 p2 s = some o) (hC : Sum.elim (fun s' : Int32 × mM => ∀ (w4 : Value) (hw4 : mNotL w4 = true) (w5 : Value) (hw5 : mNotL w5 = true), mGo mG (76, List.drop 5 mC76, [.ref p0, .ref p1, .float p2, .int s'.1, w4, w5], [], s'.2) r) (Sum.elim (fun x : mM => ∀ (w0 : Value) (hw0 : mNotL w0 = true) (w1 : Value) (hw1 : mNotL w1 = true) (w2 : Value) (hw2 : mNotL w2 = true) (w3 : Value) (hw3 : mNotL w3 = true) (w4 : Value) (hw4 : mNotL w4 = true) (w5 : Value) (hw5 : mNotL w5 = true), mGo mG (76, List.drop 37 mC76, [w0, w1, w2, w3, w4, w5], [], x) r) (fun y : mM => r = (none, y))) o) : ∀ (w4 : Value) (hw4 : mNotL w4 = true) (w5 : Value) (hw5 : mNotL w5 = true), mGo mG (76, List.drop 5 mC76, [.ref p0, .ref p1, .float p2, .int s.1, w4, w5], [], s.2) r := by
  intro w4 hw4 w5 hw5
  unfold s76L5 at hr
  refine mGo.steps 1 (c' := (76, List.drop 6 mC76, [.ref p0, .ref p1, .float p2, .int s.1, w4, w5], [.int s.1], s.2)) rfl ?_
  rcases mIte hr with ⟨h12, hr⟩ | ⟨h12, hr⟩
  · refine gBrT (p := s.1 < 0) (y := 76) (is := List.drop 7 mC76) (L := [.ref p0, .ref p1, .float p2, .int s.1, w4, w5]) (st := []) (μ := s.2) (t := 68) rfl h12 ?_
    obtain rfl := Option.some.inj hr
    exact hC (.ref p0) rfl (.ref p1) rfl (.float p2) rfl (.int s.1) rfl w4 hw4 w5 hw5
  · refine gBrF (p := s.1 < 0) (y := 76) (is := List.drop 7 mC76) (L := [.ref p0, .ref p1, .float p2, .int s.1, w4, w5]) (st := []) (μ := s.2) (t := 68) rfl h12 ?_
    refine mGo.steps 1 (c' := (76, List.drop 8 mC76, [.ref p0, .ref p1, .float p2, .int s.1, w4, w5], [.ref p1], s.2)) rfl ?_
    obtain ⟨h2, hr⟩ := mIf hr
    refine gGet (is := List.drop 9 mC76) (v := .ref (mP s.2 p1 4)) h2 rfl ?_
    refine mGo.steps 1 (c' := (76, List.drop 10 mC76, [.ref p0, .ref p1, .float p2, .int s.1, w4, w5], [.int s.1, .ref (mP s.2 p1 4)], s.2)) rfl ?_
    obtain ⟨h3, hr⟩ := mIf hr
    refine gIald (is := List.drop 11 mC76) h3 ?_
    refine mGo.steps 2 (c' := (76, List.drop 13 mC76, [.ref p0, .ref p1, .float p2, .int s.1, .int (mI s.2 (mP s.2 p1 4) (Int32.toNatClampNeg s.1)), w5], [.int (mI s.2 (mP s.2 p1 4) (Int32.toNatClampNeg s.1))], s.2)) rfl ?_
    rcases mIte hr with ⟨h11, hr⟩ | ⟨h11, hr⟩
    · refine gBrT (p := (mI s.2 (mP s.2 p1 4) (Int32.toNatClampNeg s.1)) ≤ 0) (y := 76) (is := List.drop 14 mC76) (L := [.ref p0, .ref p1, .float p2, .int s.1, .int (mI s.2 (mP s.2 p1 4) (Int32.toNatClampNeg s.1)), w5]) (st := []) (μ := s.2) (t := 62) rfl h11 ?_
      exact t76L5_35 p0 p1 p2 s.2 s.1 (.int (mI s.2 (mP s.2 p1 4) (Int32.toNatClampNeg s.1))) rfl w5 hw5 hr hC
    · refine gBrF (p := (mI s.2 (mP s.2 p1 4) (Int32.toNatClampNeg s.1)) ≤ 0) (y := 76) (is := List.drop 14 mC76) (L := [.ref p0, .ref p1, .float p2, .int s.1, .int (mI s.2 (mP s.2 p1 4) (Int32.toNatClampNeg s.1)), w5]) (st := []) (μ := s.2) (t := 62) rfl h11 ?_
      refine mGo.steps 2 (c' := (76, List.drop 16 mC76, [.ref p0, .ref p1, .float p2, .int s.1, .int (mI s.2 (mP s.2 p1 4) (Int32.toNatClampNeg s.1)), w5], [.int 8, .int (mI s.2 (mP s.2 p1 4) (Int32.toNatClampNeg s.1))], s.2)) rfl ?_
      rcases mIte hr with ⟨h10, hr⟩ | ⟨h10, hr⟩
      · refine gBrT (p := 8 ≤ (mI s.2 (mP s.2 p1 4) (Int32.toNatClampNeg s.1))) (y := 76) (is := List.drop 17 mC76) (L := [.ref p0, .ref p1, .float p2, .int s.1, .int (mI s.2 (mP s.2 p1 4) (Int32.toNatClampNeg s.1)), w5]) (st := []) (μ := s.2) (t := 62) rfl h10 ?_
        exact t76L5_35 p0 p1 p2 s.2 s.1 (.int (mI s.2 (mP s.2 p1 4) (Int32.toNatClampNeg s.1))) rfl w5 hw5 hr hC
      · refine gBrF (p := 8 ≤ (mI s.2 (mP s.2 p1 4) (Int32.toNatClampNeg s.1))) (y := 76) (is := List.drop 17 mC76) (L := [.ref p0, .ref p1, .float p2, .int s.1, .int (mI s.2 (mP s.2 p1 4) (Int32.toNatClampNeg s.1)), w5]) (st := []) (μ := s.2) (t := 62) rfl h10 ?_
        refine mGo.steps 1 (c' := (76, List.drop 18 mC76, [.ref p0, .ref p1, .float p2, .int s.1, .int (mI s.2 (mP s.2 p1 4) (Int32.toNatClampNeg s.1)), w5], [.ref p0], s.2)) rfl ?_
        obtain ⟨h4, hr⟩ := mIf hr
        refine gGet (is := List.drop 19 mC76) (v := .ref (mP s.2 p0 0)) h4 rfl ?_
        refine mGo.steps 1 (c' := (76, List.drop 20 mC76, [.ref p0, .ref p1, .float p2, .int s.1, .int (mI s.2 (mP s.2 p1 4) (Int32.toNatClampNeg s.1)), w5], [.int (mI s.2 (mP s.2 p1 4) (Int32.toNatClampNeg s.1)), .ref (mP s.2 p0 0)], s.2)) rfl ?_
        obtain ⟨h5, hr⟩ := mIf hr
        refine gFald (is := List.drop 21 mC76) h5 ?_
        refine mGo.steps 1 (c' := (76, List.drop 22 mC76, [.ref p0, .ref p1, .float p2, .int s.1, .int (mI s.2 (mP s.2 p1 4) (Int32.toNatClampNeg s.1)), w5], [.float p2, .float (mF s.2 (mP s.2 p0 0) (Int32.toNatClampNeg (mI s.2 (mP s.2 p1 4) (Int32.toNatClampNeg s.1))))], s.2)) rfl ?_
        obtain ⟨h6, hr⟩ := mIf hr
        refine gFsub (is := List.drop 23 mC76) h6 ?_
        refine mGo.steps 2 (c' := (76, List.drop 25 mC76, [.ref p0, .ref p1, .float p2, .int s.1, .int (mI s.2 (mP s.2 p1 4) (Int32.toNatClampNeg s.1)), .float (FP.fsub (mF s.2 (mP s.2 p0 0) (Int32.toNatClampNeg (mI s.2 (mP s.2 p1 4) (Int32.toNatClampNeg s.1)))) p2)], [.ref p0], s.2)) rfl ?_
        refine gGet (is := List.drop 26 mC76) (v := .ref (mP s.2 p0 0)) h4 rfl ?_
        refine mGo.steps 4 (c' := (76, List.drop 30 mC76, [.ref p0, .ref p1, .float p2, .int s.1, .int (mI s.2 (mP s.2 p1 4) (Int32.toNatClampNeg s.1)), .float (FP.fsub (mF s.2 (mP s.2 p0 0) (Int32.toNatClampNeg (mI s.2 (mP s.2 p1 4) (Int32.toNatClampNeg s.1)))) p2)], [.int (Op.cmpValue (FP.fcmp (FP.fsub (mF s.2 (mP s.2 p0 0) (Int32.toNatClampNeg (mI s.2 (mP s.2 p1 4) (Int32.toNatClampNeg s.1)))) p2) FP.fconst0) CmpOp.g), .int (mI s.2 (mP s.2 p1 4) (Int32.toNatClampNeg s.1)), .ref (mP s.2 p0 0)], s.2)) rfl ?_
        rcases mIte hr with ⟨h9, hr⟩ | ⟨h9, hr⟩
        · refine gBrT (p := 0 ≤ (Op.cmpValue (FP.fcmp (FP.fsub (mF s.2 (mP s.2 p0 0) (Int32.toNatClampNeg (mI s.2 (mP s.2 p1 4) (Int32.toNatClampNeg s.1)))) p2) FP.fconst0) CmpOp.g)) (y := 76) (is := List.drop 31 mC76) (L := [.ref p0, .ref p1, .float p2, .int s.1, .int (mI s.2 (mP s.2 p1 4) (Int32.toNatClampNeg s.1)), .float (FP.fsub (mF s.2 (mP s.2 p0 0) (Int32.toNatClampNeg (mI s.2 (mP s.2 p1 4) (Int32.toNatClampNeg s.1)))) p2)]) (st := [.int (mI s.2 (mP s.2 p1 4) (Int32.toNatClampNeg s.1)), .ref (mP s.2 p0 0)]) (μ := s.2) (t := 59) rfl h9 ?_
          refine mGo.steps 1 (c' := (76, List.drop 34 mC76, [.ref p0, .ref p1, .float p2, .int s.1, .int (mI s.2 (mP s.2 p1 4) (Int32.toNatClampNeg s.1)), .float (FP.fsub (mF s.2 (mP s.2 p0 0) (Int32.toNatClampNeg (mI s.2 (mP s.2 p1 4) (Int32.toNatClampNeg s.1)))) p2)], [.float (FP.fsub (mF s.2 (mP s.2 p0 0) (Int32.toNatClampNeg (mI s.2 (mP s.2 p1 4) (Int32.toNatClampNeg s.1)))) p2), .int (mI s.2 (mP s.2 p1 4) (Int32.toNatClampNeg s.1)), .ref (mP s.2 p0 0)], s.2)) rfl ?_
          exact t76L5_34 p0 p1 p2 s.2 s.1 (FP.fsub (mF s.2 (mP s.2 p0 0) (Int32.toNatClampNeg (mI s.2 (mP s.2 p1 4) (Int32.toNatClampNeg s.1)))) p2) (mI s.2 (mP s.2 p1 4) (Int32.toNatClampNeg s.1)) (mP s.2 p0 0) (.int (mI s.2 (mP s.2 p1 4) (Int32.toNatClampNeg s.1))) rfl (.float (FP.fsub (mF s.2 (mP s.2 p0 0) (Int32.toNatClampNeg (mI s.2 (mP s.2 p1 4) (Int32.toNatClampNeg s.1)))) p2)) rfl hr hC
        · refine gBrF (p := 0 ≤ (Op.cmpValue (FP.fcmp (FP.fsub (mF s.2 (mP s.2 p0 0) (Int32.toNatClampNeg (mI s.2 (mP s.2 p1 4) (Int32.toNatClampNeg s.1)))) p2) FP.fconst0) CmpOp.g)) (y := 76) (is := List.drop 31 mC76) (L := [.ref p0, .ref p1, .float p2, .int s.1, .int (mI s.2 (mP s.2 p1 4) (Int32.toNatClampNeg s.1)), .float (FP.fsub (mF s.2 (mP s.2 p0 0) (Int32.toNatClampNeg (mI s.2 (mP s.2 p1 4) (Int32.toNatClampNeg s.1)))) p2)]) (st := [.int (mI s.2 (mP s.2 p1 4) (Int32.toNatClampNeg s.1)), .ref (mP s.2 p0 0)]) (μ := s.2) (t := 59) rfl h9 ?_
          refine mGo.steps 2 (c' := (76, List.drop 34 mC76, [.ref p0, .ref p1, .float p2, .int s.1, .int (mI s.2 (mP s.2 p1 4) (Int32.toNatClampNeg s.1)), .float (FP.fsub (mF s.2 (mP s.2 p0 0) (Int32.toNatClampNeg (mI s.2 (mP s.2 p1 4) (Int32.toNatClampNeg s.1)))) p2)], [.float FP.fconst0, .int (mI s.2 (mP s.2 p1 4) (Int32.toNatClampNeg s.1)), .ref (mP s.2 p0 0)], s.2)) rfl ?_
          exact t76L5_34 p0 p1 p2 s.2 s.1 FP.fconst0 (mI s.2 (mP s.2 p1 4) (Int32.toNatClampNeg s.1)) (mP s.2 p0 0) (.int (mI s.2 (mP s.2 p1 4) (Int32.toNatClampNeg s.1))) rfl (.float (FP.fsub (mF s.2 (mP s.2 p0 0) (Int32.toNatClampNeg (mI s.2 (mP s.2 p1 4) (Int32.toNatClampNeg s.1)))) p2)) rfl hr hC
theorem t76L5l (p0 : Nat) (p1 : Nat) (p2 : UInt32) {r : Option Value × mM} (n : Nat) (s : Int32 × mM) (o : (mM) ⊕ mM) (hr : mLoop (s76L5 p0 p1 p2) n s = some o) (hC : Sum.elim (fun x : mM => ∀ (w0 : Value) (hw0 : mNotL w0 = true) (w1 : Value) (hw1 : mNotL w1 = true) (w2 : Value) (hw2 : mNotL w2 = true) (w3 : Value) (hw3 : mNotL w3 = true) (w4 : Value) (hw4 : mNotL w4 = true) (w5 : Value) (hw5 : mNotL w5 = true), mGo mG (76, List.drop 37 mC76, [w0, w1, w2, w3, w4, w5], [], x) r) (fun y : mM => r = (none, y)) o) : ∀ (w4 : Value) (hw4 : mNotL w4 = true) (w5 : Value) (hw5 : mNotL w5 = true), mGo mG (76, List.drop 5 mC76, [.ref p0, .ref p1, .float p2, .int s.1, w4, w5], [], s.2) r :=
  mLoop_go (Hd := (fun s' : Int32 × mM => ∀ (w4 : Value) (hw4 : mNotL w4 = true) (w5 : Value) (hw5 : mNotL w5 = true), mGo mG (76, List.drop 5 mC76, [.ref p0, .ref p1, .float p2, .int s'.1, w4, w5], [], s'.2) r)) (fun s o hb hC => t76L5 p0 p1 p2 s o hb hC) n s o hr hC
def s76 (μ : mM) (a0 : Nat) (a1 : Nat) (a2 : UInt32) : Option mM :=
  if (mS μ a1).1 = 7 then (mLoop (s76L5 a0 a1 a2) 1000 ((mI μ a1 1) - 1, μ)).bind fun o13 => Sum.elim (fun x14 => some x14) (fun y15 => some y15) o13 else none
set_option maxRecDepth 20000 in
theorem t76 {μ : mM} {a0 : Nat} {a1 : Nat} {a2 : UInt32} {o : mM} (hr : s76 μ a0 a1 a2 = some o) : mEv mG 76 [.ref a0, .ref a1, .float a2] μ (none) (o) := by
  obtain ⟨r, hC⟩ : ∃ r : Option Value × mM, r = (none, o) := ⟨_, rfl⟩
  show mGo mG (76, List.drop 0 mC76, [.ref a0, .ref a1, .float a2, .retAddr 0, .retAddr 0, .retAddr 0], [], μ) (none, o)
  rw [← hC]
  unfold s76 at hr
  refine mGo.steps 1 (c' := (76, List.drop 1 mC76, [.ref a0, .ref a1, .float a2, .retAddr 0, .retAddr 0, .retAddr 0], [.ref a1], μ)) rfl ?_
  obtain ⟨h1, hr⟩ := mIf hr
  refine gGet (is := List.drop 2 mC76) (v := .int (mI μ a1 1)) h1 rfl ?_
  refine mGo.steps 3 (c' := (76, List.drop 5 mC76, [.ref a0, .ref a1, .float a2, .int ((mI μ a1 1) - 1), .retAddr 0, .retAddr 0], [], μ)) rfl ?_
  obtain ⟨o13, h16, hr⟩ := mBi hr
  refine t76L5l a0 a1 a2 1000 ((mI μ a1 1) - 1, μ) o13 h16 ?_ (.retAddr 0) rfl (.retAddr 0) rfl
  cases o13 with
  | inl x14 =>
    show ∀ (w0 : Value) (hw0 : mNotL w0 = true) (w1 : Value) (hw1 : mNotL w1 = true) (w2 : Value) (hw2 : mNotL w2 = true) (w3 : Value) (hw3 : mNotL w3 = true) (w4 : Value) (hw4 : mNotL w4 = true) (w5 : Value) (hw5 : mNotL w5 = true), mGo mG (76, List.drop 37 mC76, [w0, w1, w2, w3, w4, w5], [], x14) r
    intro w0 hw0 w1 hw1 w2 hw2 w3 hw3 w4 hw4 w5 hw5
    replace hr : (_) = some _ := hr
    obtain rfl := Option.some.inj hr
    rw [show r = _ from hC]
    exact gVret rfl
  | inr y15 =>
    obtain rfl := Option.some.inj hr
    exact hC

/-! 75: TunnelFabric$Shares.settleLink(LTunnelFabric$Fabric;I)V -/
def s75L2_42 (p0 : Nat) (p1 : Nat) (p2 : Int32) (μ : mM) (v3 : Int32) : Option ((Int32 × mM) ⊕ ((mM) ⊕ mM)) :=
  some (.inl (v3 + 1, μ))
set_option maxRecDepth 20000 in
theorem t75L2_42 (p0 : Nat) (p1 : Nat) (p2 : Int32) (μ : mM) (v3 : Int32) (w4 : Value) (hw4 : mNotL w4 = true) {o : ((Int32 × mM) ⊕ ((mM) ⊕ mM))} {r : Option Value × mM} (hr : s75L2_42 p0 p1 p2 μ v3 = some o) (hC : Sum.elim (fun s' : Int32 × mM => ∀ (w4 : Value) (hw4 : mNotL w4 = true), mGo mG (75, List.drop 2 mC75, [.ref p0, .ref p1, .int p2, .int s'.1, w4], [], s'.2) r) (Sum.elim (fun x : mM => ∀ (w0 : Value) (hw0 : mNotL w0 = true) (w1 : Value) (hw1 : mNotL w1 = true) (w2 : Value) (hw2 : mNotL w2 = true) (w3 : Value) (hw3 : mNotL w3 = true) (w4 : Value) (hw4 : mNotL w4 = true), mGo mG (75, List.drop 44 mC75, [w0, w1, w2, w3, w4], [], x) r) (fun y : mM => r = (none, y))) o) : mGo mG (75, List.drop 42 mC75, [.ref p0, .ref p1, .int p2, .int v3, w4], [], μ) r := by
  unfold s75L2_42 at hr
  refine mGo.steps 2 (c' := (75, List.drop 2 mC75, [.ref p0, .ref p1, .int p2, .int (v3 + 1), w4], [], μ)) rfl ?_
  obtain rfl := Option.some.inj hr
  exact hC w4 hw4
def s75L2 (p0 : Nat) (p1 : Nat) (p2 : Int32) (s : Int32 × mM) : Option ((Int32 × mM) ⊕ ((mM) ⊕ mM)) :=
  if 10 ≤ s.1 then (some (.inr (.inl s.2))) else (if (mS s.2 p1).1 = 1 then if (mS s.2 (mP s.2 p1 1)).1 = 20 + 6 ∧ mInb s.1 (mS s.2 (mP s.2 p1 1)).2 then if (mS s.2 p0).1 = 5 then if (mS s.2 (mP s.2 p0 2)).1 = 12 ∧ mInb s.1 (mS s.2 (mP s.2 p0 2)).2 then if (mI s.2 (mP s.2 p0 2) (Int32.toNatClampNeg s.1)) = 0 then (s75L2_42 p0 p1 p2 s.2 s.1) else (if (mS s.2 (mP s.2 (mP s.2 p1 1) (Int32.toNatClampNeg s.1))).1 = 6 then (s79 s.2 (mP s.2 (mP s.2 p1 1) (Int32.toNatClampNeg s.1)) p2).bind fun q6 => if q6 = 0 then (s75L2_42 p0 p1 p2 s.2 s.1) else ((s82 s.2 (mP s.2 (mP s.2 p1 1) (Int32.toNatClampNeg s.1))).bind fun q8 => if FP.fmul (mF s.2 p0 3) (FP.i2f q8) &&& 0x7fffffff ≤ 0x7f800000 then if (mS s.2 (mP s.2 p0 1)).1 = 11 ∧ mInb s.1 (mS s.2 (mP s.2 p0 1)).2 then (some (mUF s.2 (mP s.2 p0 1) (Int32.toNatClampNeg s.1) (FP.fmul (mF s.2 p0 3) (FP.i2f q8)))).bind fun μ12 => if (mS μ12 (mP μ12 p0 2)).1 = 12 ∧ mInb s.1 (mS μ12 (mP μ12 p0 2)).2 then (some (mUI μ12 (mP μ12 p0 2) (Int32.toNatClampNeg s.1) 0)).bind fun μ14 => if (mS μ14 (mP μ14 p0 1)).1 = 11 ∧ mInb s.1 (mS μ14 (mP μ14 p0 1)).2 then (s76 μ14 p0 (mP μ14 (mP s.2 (mP s.2 p1 1) (Int32.toNatClampNeg s.1)) 6) (mF μ14 (mP μ14 p0 1) (Int32.toNatClampNeg s.1))).bind fun q16 => s75L2_42 p0 p1 p2 q16 s.1 else none else none else none else none) else none) else none else none else none else none)
set_option maxRecDepth 20000 in
theorem t75L2 (p0 : Nat) (p1 : Nat) (p2 : Int32) {r : Option Value × mM} (s : Int32 × mM) (o : ((Int32 × mM) ⊕ ((mM) ⊕ mM))) (hr : s75L2 p0 p1 p2 s = some o) (hC : Sum.elim (fun s' : Int32 × mM => ∀ (w4 : Value) (hw4 : mNotL w4 = true), mGo mG (75, List.drop 2 mC75, [.ref p0, .ref p1, .int p2, .int s'.1, w4], [], s'.2) r) (Sum.elim (fun x : mM => ∀ (w0 : Value) (hw0 : mNotL w0 = true) (w1 : Value) (hw1 : mNotL w1 = true) (w2 : Value) (hw2 : mNotL w2 = true) (w3 : Value) (hw3 : mNotL w3 = true) (w4 : Value) (hw4 : mNotL w4 = true), mGo mG (75, List.drop 44 mC75, [w0, w1, w2, w3, w4], [], x) r) (fun y : mM => r = (none, y))) o) : ∀ (w4 : Value) (hw4 : mNotL w4 = true), mGo mG (75, List.drop 2 mC75, [.ref p0, .ref p1, .int p2, .int s.1, w4], [], s.2) r := by
  intro w4 hw4
  unfold s75L2 at hr
  refine mGo.steps 2 (c' := (75, List.drop 4 mC75, [.ref p0, .ref p1, .int p2, .int s.1, w4], [.int 10, .int s.1], s.2)) rfl ?_
  rcases mIte hr with ⟨h20, hr⟩ | ⟨h20, hr⟩
  · refine gBrT (p := 10 ≤ s.1) (y := 75) (is := List.drop 5 mC75) (L := [.ref p0, .ref p1, .int p2, .int s.1, w4]) (st := []) (μ := s.2) (t := 79) rfl h20 ?_
    obtain rfl := Option.some.inj hr
    exact hC (.ref p0) rfl (.ref p1) rfl (.int p2) rfl (.int s.1) rfl w4 hw4
  · refine gBrF (p := 10 ≤ s.1) (y := 75) (is := List.drop 5 mC75) (L := [.ref p0, .ref p1, .int p2, .int s.1, w4]) (st := []) (μ := s.2) (t := 79) rfl h20 ?_
    refine mGo.steps 1 (c' := (75, List.drop 6 mC75, [.ref p0, .ref p1, .int p2, .int s.1, w4], [.ref p1], s.2)) rfl ?_
    obtain ⟨h1, hr⟩ := mIf hr
    refine gGet (is := List.drop 7 mC75) (v := .ref (mP s.2 p1 1)) h1 rfl ?_
    refine mGo.steps 1 (c' := (75, List.drop 8 mC75, [.ref p0, .ref p1, .int p2, .int s.1, w4], [.int s.1, .ref (mP s.2 p1 1)], s.2)) rfl ?_
    obtain ⟨h2, hr⟩ := mIf hr
    refine gAald (is := List.drop 9 mC75) h2 ?_
    refine mGo.steps 2 (c' := (75, List.drop 11 mC75, [.ref p0, .ref p1, .int p2, .int s.1, .ref (mP s.2 (mP s.2 p1 1) (Int32.toNatClampNeg s.1))], [.ref p0], s.2)) rfl ?_
    obtain ⟨h3, hr⟩ := mIf hr
    refine gGet (is := List.drop 12 mC75) (v := .ref (mP s.2 p0 2)) h3 rfl ?_
    refine mGo.steps 1 (c' := (75, List.drop 13 mC75, [.ref p0, .ref p1, .int p2, .int s.1, .ref (mP s.2 (mP s.2 p1 1) (Int32.toNatClampNeg s.1))], [.int s.1, .ref (mP s.2 p0 2)], s.2)) rfl ?_
    obtain ⟨h4, hr⟩ := mIf hr
    refine gBald (is := List.drop 14 mC75) h4 ?_
    rcases mIte hr with ⟨h19, hr⟩ | ⟨h19, hr⟩
    · refine gBrT (p := (mI s.2 (mP s.2 p0 2) (Int32.toNatClampNeg s.1)) = 0) (y := 75) (is := List.drop 15 mC75) (L := [.ref p0, .ref p1, .int p2, .int s.1, .ref (mP s.2 (mP s.2 p1 1) (Int32.toNatClampNeg s.1))]) (st := []) (μ := s.2) (t := 73) rfl h19 ?_
      exact t75L2_42 p0 p1 p2 s.2 s.1 (.ref (mP s.2 (mP s.2 p1 1) (Int32.toNatClampNeg s.1))) rfl hr hC
    · refine gBrF (p := (mI s.2 (mP s.2 p0 2) (Int32.toNatClampNeg s.1)) = 0) (y := 75) (is := List.drop 15 mC75) (L := [.ref p0, .ref p1, .int p2, .int s.1, .ref (mP s.2 (mP s.2 p1 1) (Int32.toNatClampNeg s.1))]) (st := []) (μ := s.2) (t := 73) rfl h19 ?_
      refine mGo.steps 2 (c' := (75, List.drop 17 mC75, [.ref p0, .ref p1, .int p2, .int s.1, .ref (mP s.2 (mP s.2 p1 1) (Int32.toNatClampNeg s.1))], [.int p2, .ref (mP s.2 (mP s.2 p1 1) (Int32.toNatClampNeg s.1))], s.2)) rfl ?_
      obtain ⟨h5, hr⟩ := mIf hr
      obtain ⟨q6, h7, hr⟩ := mBi hr
      refine gCall (z := 79) (n := 1) (f := 0) (kind := 1) (a := (mP s.2 (mP s.2 p1 1) (Int32.toNatClampNeg s.1))) (As := [.int p2]) (y := 75) (is := List.drop 18 mC75) (L := [.ref p0, .ref p1, .int p2, .int s.1, .ref (mP s.2 (mP s.2 p1 1) (Int32.toNatClampNeg s.1))]) (rest := []) (μ := s.2) rfl (by decide) (by decide) ⟨rfl, rfl⟩ rfl h5 (Nat.le_of_ble_eq_true rfl) (Nat.le_of_ble_eq_true rfl) (t79 h7) ?_
      rcases mIte hr with ⟨h18, hr⟩ | ⟨h18, hr⟩
      · refine gBrT (p := q6 = 0) (y := 75) (is := List.drop 19 mC75) (L := [.ref p0, .ref p1, .int p2, .int s.1, .ref (mP s.2 (mP s.2 p1 1) (Int32.toNatClampNeg s.1))]) (st := []) (μ := s.2) (t := 73) rfl h18 ?_
        exact t75L2_42 p0 p1 p2 s.2 s.1 (.ref (mP s.2 (mP s.2 p1 1) (Int32.toNatClampNeg s.1))) rfl hr hC
      · refine gBrF (p := q6 = 0) (y := 75) (is := List.drop 19 mC75) (L := [.ref p0, .ref p1, .int p2, .int s.1, .ref (mP s.2 (mP s.2 p1 1) (Int32.toNatClampNeg s.1))]) (st := []) (μ := s.2) (t := 73) rfl h18 ?_
        refine mGo.steps 1 (c' := (75, List.drop 20 mC75, [.ref p0, .ref p1, .int p2, .int s.1, .ref (mP s.2 (mP s.2 p1 1) (Int32.toNatClampNeg s.1))], [.ref p0], s.2)) rfl ?_
        refine gGet (is := List.drop 21 mC75) (v := .ref (mP s.2 p0 1)) h3 rfl ?_
        refine mGo.steps 2 (c' := (75, List.drop 23 mC75, [.ref p0, .ref p1, .int p2, .int s.1, .ref (mP s.2 (mP s.2 p1 1) (Int32.toNatClampNeg s.1))], [.ref p0, .int s.1, .ref (mP s.2 p0 1)], s.2)) rfl ?_
        refine gGet (is := List.drop 24 mC75) (v := .float (mF s.2 p0 3)) h3 rfl ?_
        refine mGo.steps 1 (c' := (75, List.drop 25 mC75, [.ref p0, .ref p1, .int p2, .int s.1, .ref (mP s.2 (mP s.2 p1 1) (Int32.toNatClampNeg s.1))], [.ref (mP s.2 (mP s.2 p1 1) (Int32.toNatClampNeg s.1)), .float (mF s.2 p0 3), .int s.1, .ref (mP s.2 p0 1)], s.2)) rfl ?_
        obtain ⟨q8, h9, hr⟩ := mBi hr
        refine gCall (z := 82) (n := 0) (f := 0) (kind := 1) (a := (mP s.2 (mP s.2 p1 1) (Int32.toNatClampNeg s.1))) (As := []) (y := 75) (is := List.drop 26 mC75) (L := [.ref p0, .ref p1, .int p2, .int s.1, .ref (mP s.2 (mP s.2 p1 1) (Int32.toNatClampNeg s.1))]) (rest := [.float (mF s.2 p0 3), .int s.1, .ref (mP s.2 p0 1)]) (μ := s.2) rfl (by decide) (by decide) ⟨rfl, rfl⟩ rfl h5 (Nat.le_of_ble_eq_true rfl) (Nat.le_of_ble_eq_true rfl) (t82 h9) ?_
        refine mGo.steps 1 (c' := (75, List.drop 27 mC75, [.ref p0, .ref p1, .int p2, .int s.1, .ref (mP s.2 (mP s.2 p1 1) (Int32.toNatClampNeg s.1))], [.float (FP.i2f q8), .float (mF s.2 p0 3), .int s.1, .ref (mP s.2 p0 1)], s.2)) rfl ?_
        obtain ⟨h10, hr⟩ := mIf hr
        refine gFmul (is := List.drop 28 mC75) h10 ?_
        obtain ⟨h11, hr⟩ := mIf hr
        replace hr := mBs hr
        refine gFast (is := List.drop 29 mC75) h11 ?_
        let μ12 : mM := mUF s.2 (mP s.2 p0 1) (Int32.toNatClampNeg s.1) (FP.fmul (mF s.2 p0 3) (FP.i2f q8))
        refine mGo.steps 1 (c' := (75, List.drop 30 mC75, [.ref p0, .ref p1, .int p2, .int s.1, .ref (mP s.2 (mP s.2 p1 1) (Int32.toNatClampNeg s.1))], [.ref p0], μ12)) rfl ?_
        refine gGet (is := List.drop 31 mC75) (v := .ref (mP μ12 p0 2)) h3 rfl ?_
        refine mGo.steps 2 (c' := (75, List.drop 33 mC75, [.ref p0, .ref p1, .int p2, .int s.1, .ref (mP s.2 (mP s.2 p1 1) (Int32.toNatClampNeg s.1))], [.int 0, .int s.1, .ref (mP μ12 p0 2)], μ12)) rfl ?_
        obtain ⟨h13, hr⟩ := mIf hr
        replace hr := mBs hr
        refine gBast (is := List.drop 34 mC75) h13 (by decide) ?_
        let μ14 : mM := mUI μ12 (mP μ12 p0 2) (Int32.toNatClampNeg s.1) 0
        refine mGo.steps 2 (c' := (75, List.drop 36 mC75, [.ref p0, .ref p1, .int p2, .int s.1, .ref (mP s.2 (mP s.2 p1 1) (Int32.toNatClampNeg s.1))], [.ref (mP s.2 (mP s.2 p1 1) (Int32.toNatClampNeg s.1)), .ref p0], μ14)) rfl ?_
        refine gGet (is := List.drop 37 mC75) (v := .ref (mP μ14 (mP s.2 (mP s.2 p1 1) (Int32.toNatClampNeg s.1)) 6)) h5 rfl ?_
        refine mGo.steps 1 (c' := (75, List.drop 38 mC75, [.ref p0, .ref p1, .int p2, .int s.1, .ref (mP s.2 (mP s.2 p1 1) (Int32.toNatClampNeg s.1))], [.ref p0, .ref (mP μ14 (mP s.2 (mP s.2 p1 1) (Int32.toNatClampNeg s.1)) 6), .ref p0], μ14)) rfl ?_
        refine gGet (is := List.drop 39 mC75) (v := .ref (mP μ14 p0 1)) h3 rfl ?_
        refine mGo.steps 1 (c' := (75, List.drop 40 mC75, [.ref p0, .ref p1, .int p2, .int s.1, .ref (mP s.2 (mP s.2 p1 1) (Int32.toNatClampNeg s.1))], [.int s.1, .ref (mP μ14 p0 1), .ref (mP μ14 (mP s.2 (mP s.2 p1 1) (Int32.toNatClampNeg s.1)) 6), .ref p0], μ14)) rfl ?_
        obtain ⟨h15, hr⟩ := mIf hr
        refine gFald (is := List.drop 41 mC75) h15 ?_
        obtain ⟨q16, h17, hr⟩ := mBi hr
        refine gCall (z := 76) (n := 2) (f := 0) (kind := 1) (a := p0) (As := [.ref (mP μ14 (mP s.2 (mP s.2 p1 1) (Int32.toNatClampNeg s.1)) 6), .float (mF μ14 (mP μ14 p0 1) (Int32.toNatClampNeg s.1))]) (y := 75) (is := List.drop 42 mC75) (L := [.ref p0, .ref p1, .int p2, .int s.1, .ref (mP s.2 (mP s.2 p1 1) (Int32.toNatClampNeg s.1))]) (rest := []) (μ := μ14) rfl (by decide) (by decide) ⟨rfl, rfl⟩ rfl h3 (Nat.le_of_ble_eq_true rfl) (Nat.le_of_ble_eq_true rfl) (t76 h17) ?_
        exact t75L2_42 p0 p1 p2 q16 s.1 (.ref (mP s.2 (mP s.2 p1 1) (Int32.toNatClampNeg s.1))) rfl hr hC
theorem t75L2l (p0 : Nat) (p1 : Nat) (p2 : Int32) {r : Option Value × mM} (n : Nat) (s : Int32 × mM) (o : (mM) ⊕ mM) (hr : mLoop (s75L2 p0 p1 p2) n s = some o) (hC : Sum.elim (fun x : mM => ∀ (w0 : Value) (hw0 : mNotL w0 = true) (w1 : Value) (hw1 : mNotL w1 = true) (w2 : Value) (hw2 : mNotL w2 = true) (w3 : Value) (hw3 : mNotL w3 = true) (w4 : Value) (hw4 : mNotL w4 = true), mGo mG (75, List.drop 44 mC75, [w0, w1, w2, w3, w4], [], x) r) (fun y : mM => r = (none, y)) o) : ∀ (w4 : Value) (hw4 : mNotL w4 = true), mGo mG (75, List.drop 2 mC75, [.ref p0, .ref p1, .int p2, .int s.1, w4], [], s.2) r :=
  mLoop_go (Hd := (fun s' : Int32 × mM => ∀ (w4 : Value) (hw4 : mNotL w4 = true), mGo mG (75, List.drop 2 mC75, [.ref p0, .ref p1, .int p2, .int s'.1, w4], [], s'.2) r)) (fun s o hb hC => t75L2 p0 p1 p2 s o hb hC) n s o hr hC
def s75 (μ : mM) (a0 : Nat) (a1 : Nat) (a2 : Int32) : Option mM :=
  (mLoop (s75L2 a0 a1 a2) 1000 (0, μ)).bind fun o21 => Sum.elim (fun x22 => some x22) (fun y23 => some y23) o21
set_option maxRecDepth 20000 in
theorem t75 {μ : mM} {a0 : Nat} {a1 : Nat} {a2 : Int32} {o : mM} (hr : s75 μ a0 a1 a2 = some o) : mEv mG 75 [.ref a0, .ref a1, .int a2] μ (none) (o) := by
  obtain ⟨r, hC⟩ : ∃ r : Option Value × mM, r = (none, o) := ⟨_, rfl⟩
  show mGo mG (75, List.drop 0 mC75, [.ref a0, .ref a1, .int a2, .retAddr 0, .retAddr 0], [], μ) (none, o)
  rw [← hC]
  unfold s75 at hr
  refine mGo.steps 2 (c' := (75, List.drop 2 mC75, [.ref a0, .ref a1, .int a2, .int 0, .retAddr 0], [], μ)) rfl ?_
  obtain ⟨o21, h24, hr⟩ := mBi hr
  refine t75L2l a0 a1 a2 1000 (0, μ) o21 h24 ?_ (.retAddr 0) rfl
  cases o21 with
  | inl x22 =>
    show ∀ (w0 : Value) (hw0 : mNotL w0 = true) (w1 : Value) (hw1 : mNotL w1 = true) (w2 : Value) (hw2 : mNotL w2 = true) (w3 : Value) (hw3 : mNotL w3 = true) (w4 : Value) (hw4 : mNotL w4 = true), mGo mG (75, List.drop 44 mC75, [w0, w1, w2, w3, w4], [], x22) r
    intro w0 hw0 w1 hw1 w2 hw2 w3 hw3 w4 hw4
    replace hr : (_) = some _ := hr
    obtain rfl := Option.some.inj hr
    rw [show r = _ from hC]
    exact gVret rfl
  | inr y23 =>
    obtain rfl := Option.some.inj hr
    exact hC

/-! 72: TunnelFabric$Shares.compute(LTunnelFabric$Fabric;I)V -/
def s72L2_12 (p0 : Nat) (p1 : Nat) (p2 : Int32) (μ : mM) (v3 : Int32) (t0 : Int32) : Option ((Int32 × mM) ⊕ ((mM) ⊕ mM)) :=
  if (mS μ p0).1 = 5 then if (mS μ p1).1 = 1 then if (mS μ (mP μ p1 0)).1 = 20 + 4 ∧ mInb v3 (mS μ (mP μ p1 0)).2 then if (mS μ (mP μ (mP μ p1 0) (Int32.toNatClampNeg v3))).1 = 4 then if (mS μ (mP μ (mP μ (mP μ p1 0) (Int32.toNatClampNeg v3)) 6)).1 = 2 then (s53 μ (mP μ (mP μ (mP μ p1 0) (Int32.toNatClampNeg v3)) 6) p2).bind fun q6 => if (mS μ (mP μ p0 0)).1 = 11 ∧ mInb v3 (mS μ (mP μ p0 0)).2 then (some (mUF μ (mP μ p0 0) (Int32.toNatClampNeg v3) (FP.i2f (q6 - t0)))).bind fun μ9 => some (.inl (v3 + 1, μ9)) else none else none else none else none else none else none
set_option maxRecDepth 20000 in
theorem t72L2_12 (p0 : Nat) (p1 : Nat) (p2 : Int32) (μ : mM) (v3 : Int32) (t0 : Int32) (w4 : Value) (hw4 : mNotL w4 = true) {o : ((Int32 × mM) ⊕ ((mM) ⊕ mM))} {r : Option Value × mM} (hr : s72L2_12 p0 p1 p2 μ v3 t0 = some o) (hC : Sum.elim (fun s' : Int32 × mM => ∀ (w4 : Value) (hw4 : mNotL w4 = true), mGo mG (72, List.drop 2 mC72, [.ref p0, .ref p1, .int p2, .int s'.1, w4], [], s'.2) r) (Sum.elim (fun x : mM => ∀ (w2 : Value) (hw2 : mNotL w2 = true) (w3 : Value) (hw3 : mNotL w3 = true) (w4 : Value) (hw4 : mNotL w4 = true), mGo mG (72, List.drop 29 mC72, [.ref p0, .ref p1, w2, w3, w4], [], x) r) (fun y : mM => r = (none, y))) o) : mGo mG (72, List.drop 12 mC72, [.ref p0, .ref p1, .int p2, .int v3, w4], [.int t0], μ) r := by
  unfold s72L2_12 at hr
  refine mGo.steps 2 (c' := (72, List.drop 14 mC72, [.ref p0, .ref p1, .int p2, .int v3, .int t0], [.ref p0], μ)) rfl ?_
  obtain ⟨h1, hr⟩ := mIf hr
  refine gGet (is := List.drop 15 mC72) (v := .ref (mP μ p0 0)) h1 rfl ?_
  refine mGo.steps 2 (c' := (72, List.drop 17 mC72, [.ref p0, .ref p1, .int p2, .int v3, .int t0], [.ref p1, .int v3, .ref (mP μ p0 0)], μ)) rfl ?_
  obtain ⟨h2, hr⟩ := mIf hr
  refine gGet (is := List.drop 18 mC72) (v := .ref (mP μ p1 0)) h2 rfl ?_
  refine mGo.steps 1 (c' := (72, List.drop 19 mC72, [.ref p0, .ref p1, .int p2, .int v3, .int t0], [.int v3, .ref (mP μ p1 0), .int v3, .ref (mP μ p0 0)], μ)) rfl ?_
  obtain ⟨h3, hr⟩ := mIf hr
  refine gAald (is := List.drop 20 mC72) h3 ?_
  obtain ⟨h4, hr⟩ := mIf hr
  refine gGet (is := List.drop 21 mC72) (v := .ref (mP μ (mP μ (mP μ p1 0) (Int32.toNatClampNeg v3)) 6)) h4 rfl ?_
  refine mGo.steps 1 (c' := (72, List.drop 22 mC72, [.ref p0, .ref p1, .int p2, .int v3, .int t0], [.int p2, .ref (mP μ (mP μ (mP μ p1 0) (Int32.toNatClampNeg v3)) 6), .int v3, .ref (mP μ p0 0)], μ)) rfl ?_
  obtain ⟨h5, hr⟩ := mIf hr
  obtain ⟨q6, h7, hr⟩ := mBi hr
  refine gCall (z := 53) (n := 1) (f := 0) (kind := 1) (a := (mP μ (mP μ (mP μ p1 0) (Int32.toNatClampNeg v3)) 6)) (As := [.int p2]) (y := 72) (is := List.drop 23 mC72) (L := [.ref p0, .ref p1, .int p2, .int v3, .int t0]) (rest := [.int v3, .ref (mP μ p0 0)]) (μ := μ) rfl (by decide) (by decide) ⟨rfl, rfl⟩ rfl h5 (Nat.le_of_ble_eq_true rfl) (Nat.le_of_ble_eq_true rfl) (t53 h7) ?_
  refine mGo.steps 3 (c' := (72, List.drop 26 mC72, [.ref p0, .ref p1, .int p2, .int v3, .int t0], [.float (FP.i2f (q6 - t0)), .int v3, .ref (mP μ p0 0)], μ)) rfl ?_
  obtain ⟨h8, hr⟩ := mIf hr
  replace hr := mBs hr
  refine gFast (is := List.drop 27 mC72) h8 ?_
  let μ9 : mM := mUF μ (mP μ p0 0) (Int32.toNatClampNeg v3) (FP.i2f (q6 - t0))
  refine mGo.steps 2 (c' := (72, List.drop 2 mC72, [.ref p0, .ref p1, .int p2, .int (v3 + 1), .int t0], [], μ9)) rfl ?_
  obtain rfl := Option.some.inj hr
  exact hC (.int t0) rfl
def s72L2 (p0 : Nat) (p1 : Nat) (p2 : Int32) (s : Int32 × mM) : Option ((Int32 × mM) ⊕ ((mM) ⊕ mM)) :=
  if 8 ≤ s.1 then (some (.inr (.inl s.2))) else (if ¬ p2 = 0 then (s72L2_12 p0 p1 p2 s.2 s.1 0) else (if (mS s.2 p1).1 = 1 then (s29 s.2 p1 s.1).bind fun q11 => s72L2_12 p0 p1 p2 s.2 s.1 q11 else none))
set_option maxRecDepth 20000 in
theorem t72L2 (p0 : Nat) (p1 : Nat) (p2 : Int32) {r : Option Value × mM} (s : Int32 × mM) (o : ((Int32 × mM) ⊕ ((mM) ⊕ mM))) (hr : s72L2 p0 p1 p2 s = some o) (hC : Sum.elim (fun s' : Int32 × mM => ∀ (w4 : Value) (hw4 : mNotL w4 = true), mGo mG (72, List.drop 2 mC72, [.ref p0, .ref p1, .int p2, .int s'.1, w4], [], s'.2) r) (Sum.elim (fun x : mM => ∀ (w2 : Value) (hw2 : mNotL w2 = true) (w3 : Value) (hw3 : mNotL w3 = true) (w4 : Value) (hw4 : mNotL w4 = true), mGo mG (72, List.drop 29 mC72, [.ref p0, .ref p1, w2, w3, w4], [], x) r) (fun y : mM => r = (none, y))) o) : ∀ (w4 : Value) (hw4 : mNotL w4 = true), mGo mG (72, List.drop 2 mC72, [.ref p0, .ref p1, .int p2, .int s.1, w4], [], s.2) r := by
  intro w4 hw4
  unfold s72L2 at hr
  refine mGo.steps 2 (c' := (72, List.drop 4 mC72, [.ref p0, .ref p1, .int p2, .int s.1, w4], [.int 8, .int s.1], s.2)) rfl ?_
  rcases mIte hr with ⟨h14, hr⟩ | ⟨h14, hr⟩
  · refine gBrT (p := 8 ≤ s.1) (y := 72) (is := List.drop 5 mC72) (L := [.ref p0, .ref p1, .int p2, .int s.1, w4]) (st := []) (μ := s.2) (t := 52) rfl h14 ?_
    obtain rfl := Option.some.inj hr
    exact hC (.int p2) rfl (.int s.1) rfl w4 hw4
  · refine gBrF (p := 8 ≤ s.1) (y := 72) (is := List.drop 5 mC72) (L := [.ref p0, .ref p1, .int p2, .int s.1, w4]) (st := []) (μ := s.2) (t := 52) rfl h14 ?_
    refine mGo.steps 1 (c' := (72, List.drop 6 mC72, [.ref p0, .ref p1, .int p2, .int s.1, w4], [.int p2], s.2)) rfl ?_
    rcases mIte hr with ⟨h13, hr⟩ | ⟨h13, hr⟩
    · refine gBrT (p := ¬ p2 = 0) (y := 72) (is := List.drop 7 mC72) (L := [.ref p0, .ref p1, .int p2, .int s.1, w4]) (st := []) (μ := s.2) (t := 20) rfl h13 ?_
      refine mGo.steps 1 (c' := (72, List.drop 12 mC72, [.ref p0, .ref p1, .int p2, .int s.1, w4], [.int 0], s.2)) rfl ?_
      exact t72L2_12 p0 p1 p2 s.2 s.1 0 w4 hw4 hr hC
    · refine gBrF (p := ¬ p2 = 0) (y := 72) (is := List.drop 7 mC72) (L := [.ref p0, .ref p1, .int p2, .int s.1, w4]) (st := []) (μ := s.2) (t := 20) rfl h13 ?_
      refine mGo.steps 2 (c' := (72, List.drop 9 mC72, [.ref p0, .ref p1, .int p2, .int s.1, w4], [.int s.1, .ref p1], s.2)) rfl ?_
      obtain ⟨h10, hr⟩ := mIf hr
      obtain ⟨q11, h12, hr⟩ := mBi hr
      refine gCall (z := 29) (n := 1) (f := 0) (kind := 1) (a := p1) (As := [.int s.1]) (y := 72) (is := List.drop 10 mC72) (L := [.ref p0, .ref p1, .int p2, .int s.1, w4]) (rest := []) (μ := s.2) rfl (by decide) (by decide) ⟨rfl, rfl⟩ rfl h10 (Nat.le_of_ble_eq_true rfl) (Nat.le_of_ble_eq_true rfl) (t29 h12) ?_
      refine mGo.steps 1 (c' := (72, List.drop 12 mC72, [.ref p0, .ref p1, .int p2, .int s.1, w4], [.int q11], s.2)) rfl ?_
      exact t72L2_12 p0 p1 p2 s.2 s.1 q11 w4 hw4 hr hC
theorem t72L2l (p0 : Nat) (p1 : Nat) (p2 : Int32) {r : Option Value × mM} (n : Nat) (s : Int32 × mM) (o : (mM) ⊕ mM) (hr : mLoop (s72L2 p0 p1 p2) n s = some o) (hC : Sum.elim (fun x : mM => ∀ (w2 : Value) (hw2 : mNotL w2 = true) (w3 : Value) (hw3 : mNotL w3 = true) (w4 : Value) (hw4 : mNotL w4 = true), mGo mG (72, List.drop 29 mC72, [.ref p0, .ref p1, w2, w3, w4], [], x) r) (fun y : mM => r = (none, y)) o) : ∀ (w4 : Value) (hw4 : mNotL w4 = true), mGo mG (72, List.drop 2 mC72, [.ref p0, .ref p1, .int p2, .int s.1, w4], [], s.2) r :=
  mLoop_go (Hd := (fun s' : Int32 × mM => ∀ (w4 : Value) (hw4 : mNotL w4 = true), mGo mG (72, List.drop 2 mC72, [.ref p0, .ref p1, .int p2, .int s'.1, w4], [], s'.2) r)) (fun s o hb hC => t72L2 p0 p1 p2 s o hb hC) n s o hr hC
def s72L31 (p0 : Nat) (p1 : Nat) (s : Int32 × mM) : Option ((Int32 × mM) ⊕ ((mM) ⊕ mM)) :=
  if 10 ≤ s.1 then (some (.inr (.inl s.2))) else (if (mS s.2 p0).1 = 5 then if (mS s.2 p1).1 = 1 then if (mS s.2 (mP s.2 p1 1)).1 = 20 + 6 ∧ mInb s.1 (mS s.2 (mP s.2 p1 1)).2 then if (mS s.2 (mP s.2 (mP s.2 p1 1) (Int32.toNatClampNeg s.1))).1 = 6 then (s81 s.2 (mP s.2 (mP s.2 p1 1) (Int32.toNatClampNeg s.1))).bind fun q23 => if (mS s.2 (mP s.2 p0 2)).1 = 12 ∧ mInb s.1 (mS s.2 (mP s.2 p0 2)).2 then if q23 = 0 ∨ q23 = 1 then (some (mUI s.2 (mP s.2 p0 2) (Int32.toNatClampNeg s.1) q23)).bind fun μ27 => if (mS μ27 (mP μ27 p0 1)).1 = 11 ∧ mInb s.1 (mS μ27 (mP μ27 p0 1)).2 then (some (mUF μ27 (mP μ27 p0 1) (Int32.toNatClampNeg s.1) FP.fconst0)).bind fun μ29 => some (.inl (s.1 + 1, μ29)) else none else none else none else none else none else none else none)
set_option maxRecDepth 20000 in
theorem t72L31 (p0 : Nat) (p1 : Nat) {r : Option Value × mM} (s : Int32 × mM) (o : ((Int32 × mM) ⊕ ((mM) ⊕ mM))) (hr : s72L31 p0 p1 s = some o) (hC : Sum.elim (fun s' : Int32 × mM => ∀ (w2 : Value) (hw2 : mNotL w2 = true) (w4 : Value) (hw4 : mNotL w4 = true), mGo mG (72, List.drop 31 mC72, [.ref p0, .ref p1, w2, .int s'.1, w4], [], s'.2) r) (Sum.elim (fun x : mM => ∀ (w2 : Value) (hw2 : mNotL w2 = true) (w3 : Value) (hw3 : mNotL w3 = true) (w4 : Value) (hw4 : mNotL w4 = true), mGo mG (72, List.drop 50 mC72, [.ref p0, .ref p1, w2, w3, w4], [], x) r) (fun y : mM => r = (none, y))) o) : ∀ (w2 : Value) (hw2 : mNotL w2 = true) (w4 : Value) (hw4 : mNotL w4 = true), mGo mG (72, List.drop 31 mC72, [.ref p0, .ref p1, w2, .int s.1, w4], [], s.2) r := by
  intro w2 hw2 w4 hw4
  unfold s72L31 at hr
  refine mGo.steps 2 (c' := (72, List.drop 33 mC72, [.ref p0, .ref p1, w2, .int s.1, w4], [.int 10, .int s.1], s.2)) rfl ?_
  rcases mIte hr with ⟨h30, hr⟩ | ⟨h30, hr⟩
  · refine gBrT (p := 10 ≤ s.1) (y := 72) (is := List.drop 34 mC72) (L := [.ref p0, .ref p1, w2, .int s.1, w4]) (st := []) (μ := s.2) (t := 88) rfl h30 ?_
    obtain rfl := Option.some.inj hr
    exact hC w2 hw2 (.int s.1) rfl w4 hw4
  · refine gBrF (p := 10 ≤ s.1) (y := 72) (is := List.drop 34 mC72) (L := [.ref p0, .ref p1, w2, .int s.1, w4]) (st := []) (μ := s.2) (t := 88) rfl h30 ?_
    refine mGo.steps 1 (c' := (72, List.drop 35 mC72, [.ref p0, .ref p1, w2, .int s.1, w4], [.ref p0], s.2)) rfl ?_
    obtain ⟨h19, hr⟩ := mIf hr
    refine gGet (is := List.drop 36 mC72) (v := .ref (mP s.2 p0 2)) h19 rfl ?_
    refine mGo.steps 2 (c' := (72, List.drop 38 mC72, [.ref p0, .ref p1, w2, .int s.1, w4], [.ref p1, .int s.1, .ref (mP s.2 p0 2)], s.2)) rfl ?_
    obtain ⟨h20, hr⟩ := mIf hr
    refine gGet (is := List.drop 39 mC72) (v := .ref (mP s.2 p1 1)) h20 rfl ?_
    refine mGo.steps 1 (c' := (72, List.drop 40 mC72, [.ref p0, .ref p1, w2, .int s.1, w4], [.int s.1, .ref (mP s.2 p1 1), .int s.1, .ref (mP s.2 p0 2)], s.2)) rfl ?_
    obtain ⟨h21, hr⟩ := mIf hr
    refine gAald (is := List.drop 41 mC72) h21 ?_
    obtain ⟨h22, hr⟩ := mIf hr
    obtain ⟨q23, h24, hr⟩ := mBi hr
    refine gCall (z := 81) (n := 0) (f := 0) (kind := 1) (a := (mP s.2 (mP s.2 p1 1) (Int32.toNatClampNeg s.1))) (As := []) (y := 72) (is := List.drop 42 mC72) (L := [.ref p0, .ref p1, w2, .int s.1, w4]) (rest := [.int s.1, .ref (mP s.2 p0 2)]) (μ := s.2) rfl (by decide) (by decide) ⟨rfl, rfl⟩ rfl h22 (Nat.le_of_ble_eq_true rfl) (Nat.le_of_ble_eq_true rfl) (t81 h24) ?_
    obtain ⟨h25, hr⟩ := mIf hr
    obtain ⟨h26, hr⟩ := mIf hr
    replace hr := mBs hr
    refine gBast (is := List.drop 43 mC72) h25 h26 ?_
    let μ27 : mM := mUI s.2 (mP s.2 p0 2) (Int32.toNatClampNeg s.1) q23
    refine mGo.steps 1 (c' := (72, List.drop 44 mC72, [.ref p0, .ref p1, w2, .int s.1, w4], [.ref p0], μ27)) rfl ?_
    refine gGet (is := List.drop 45 mC72) (v := .ref (mP μ27 p0 1)) h19 rfl ?_
    refine mGo.steps 2 (c' := (72, List.drop 47 mC72, [.ref p0, .ref p1, w2, .int s.1, w4], [.float FP.fconst0, .int s.1, .ref (mP μ27 p0 1)], μ27)) rfl ?_
    obtain ⟨h28, hr⟩ := mIf hr
    replace hr := mBs hr
    refine gFast (is := List.drop 48 mC72) h28 ?_
    let μ29 : mM := mUF μ27 (mP μ27 p0 1) (Int32.toNatClampNeg s.1) FP.fconst0
    refine gSt1 (L := [.ref p0, .ref p1, w2, .int s.1, w4]) (q := 3) (w := .int (s.1 + 1)) (is := List.drop 49 mC72) (st := []) (μ := μ29) rfl (Nat.le_of_ble_eq_true rfl) hw2 ?_
    refine mGo.steps 1 (c' := (72, List.drop 31 mC72, [.ref p0, .ref p1, w2, .int (s.1 + 1), w4], [], μ29)) rfl ?_
    obtain rfl := Option.some.inj hr
    exact hC w2 hw2 w4 hw4
theorem t72L31l (p0 : Nat) (p1 : Nat) {r : Option Value × mM} (n : Nat) (s : Int32 × mM) (o : (mM) ⊕ mM) (hr : mLoop (s72L31 p0 p1) n s = some o) (hC : Sum.elim (fun x : mM => ∀ (w2 : Value) (hw2 : mNotL w2 = true) (w3 : Value) (hw3 : mNotL w3 = true) (w4 : Value) (hw4 : mNotL w4 = true), mGo mG (72, List.drop 50 mC72, [.ref p0, .ref p1, w2, w3, w4], [], x) r) (fun y : mM => r = (none, y)) o) : ∀ (w2 : Value) (hw2 : mNotL w2 = true) (w4 : Value) (hw4 : mNotL w4 = true), mGo mG (72, List.drop 31 mC72, [.ref p0, .ref p1, w2, .int s.1, w4], [], s.2) r :=
  mLoop_go (Hd := (fun s' : Int32 × mM => ∀ (w2 : Value) (hw2 : mNotL w2 = true) (w4 : Value) (hw4 : mNotL w4 = true), mGo mG (72, List.drop 31 mC72, [.ref p0, .ref p1, w2, .int s'.1, w4], [], s'.2) r)) (fun s o hb hC => t72L31 p0 p1 s o hb hC) n s o hr hC
def s72L52 (p0 : Nat) (p1 : Nat) (s : Int32 × mM) : Option ((Int32 × mM) ⊕ ((mM) ⊕ mM)) :=
  if 10 ≤ s.1 then (some (.inr (.inl s.2))) else (if (mS s.2 p0).1 = 5 then (s73 s.2 p0 p1).bind fun q36 => if ¬ q36.1 = (-1) then (if (mS q36.2 p0).1 = 5 then (s75 q36.2 p0 p1 q36.1).bind fun q39 => some (.inl (s.1 + 1, q39)) else none) else (some (.inr (.inr q36.2))) else none)
set_option maxRecDepth 20000 in
theorem t72L52 (p0 : Nat) (p1 : Nat) {r : Option Value × mM} (s : Int32 × mM) (o : ((Int32 × mM) ⊕ ((mM) ⊕ mM))) (hr : s72L52 p0 p1 s = some o) (hC : Sum.elim (fun s' : Int32 × mM => ∀ (w2 : Value) (hw2 : mNotL w2 = true) (w4 : Value) (hw4 : mNotL w4 = true), mGo mG (72, List.drop 52 mC72, [.ref p0, .ref p1, w2, .int s'.1, w4], [], s'.2) r) (Sum.elim (fun x : mM => ∀ (w0 : Value) (hw0 : mNotL w0 = true) (w1 : Value) (hw1 : mNotL w1 = true) (w2 : Value) (hw2 : mNotL w2 = true) (w3 : Value) (hw3 : mNotL w3 = true) (w4 : Value) (hw4 : mNotL w4 = true), mGo mG (72, List.drop 69 mC72, [w0, w1, w2, w3, w4], [], x) r) (fun y : mM => r = (none, y))) o) : ∀ (w2 : Value) (hw2 : mNotL w2 = true) (w4 : Value) (hw4 : mNotL w4 = true), mGo mG (72, List.drop 52 mC72, [.ref p0, .ref p1, w2, .int s.1, w4], [], s.2) r := by
  intro w2 hw2 w4 hw4
  unfold s72L52 at hr
  refine mGo.steps 2 (c' := (72, List.drop 54 mC72, [.ref p0, .ref p1, w2, .int s.1, w4], [.int 10, .int s.1], s.2)) rfl ?_
  rcases mIte hr with ⟨h42, hr⟩ | ⟨h42, hr⟩
  · refine gBrT (p := 10 ≤ s.1) (y := 72) (is := List.drop 55 mC72) (L := [.ref p0, .ref p1, w2, .int s.1, w4]) (st := []) (μ := s.2) (t := 123) rfl h42 ?_
    obtain rfl := Option.some.inj hr
    exact hC (.ref p0) rfl (.ref p1) rfl w2 hw2 (.int s.1) rfl w4 hw4
  · refine gBrF (p := 10 ≤ s.1) (y := 72) (is := List.drop 55 mC72) (L := [.ref p0, .ref p1, w2, .int s.1, w4]) (st := []) (μ := s.2) (t := 123) rfl h42 ?_
    refine mGo.steps 2 (c' := (72, List.drop 57 mC72, [.ref p0, .ref p1, w2, .int s.1, w4], [.ref p1, .ref p0], s.2)) rfl ?_
    obtain ⟨h35, hr⟩ := mIf hr
    obtain ⟨q36, h37, hr⟩ := mBi hr
    refine gCall (z := 73) (n := 1) (f := 0) (kind := 1) (a := p0) (As := [.ref p1]) (y := 72) (is := List.drop 58 mC72) (L := [.ref p0, .ref p1, w2, .int s.1, w4]) (rest := []) (μ := s.2) rfl (by decide) (by decide) ⟨rfl, rfl⟩ rfl h35 (Nat.le_of_ble_eq_true rfl) (Nat.le_of_ble_eq_true rfl) (t73 h37) ?_
    refine mGo.steps 3 (c' := (72, List.drop 61 mC72, [.ref p0, .ref p1, w2, .int s.1, .int q36.1], [.int (-1), .int q36.1], q36.2)) rfl ?_
    rcases mIte hr with ⟨h41, hr⟩ | ⟨h41, hr⟩
    · refine gBrT (p := ¬ q36.1 = (-1)) (y := 72) (is := List.drop 62 mC72) (L := [.ref p0, .ref p1, w2, .int s.1, .int q36.1]) (st := []) (μ := q36.2) (t := 110) rfl h41 ?_
      refine mGo.steps 3 (c' := (72, List.drop 66 mC72, [.ref p0, .ref p1, w2, .int s.1, .int q36.1], [.int q36.1, .ref p1, .ref p0], q36.2)) rfl ?_
      obtain ⟨h38, hr⟩ := mIf hr
      obtain ⟨q39, h40, hr⟩ := mBi hr
      refine gCall (z := 75) (n := 2) (f := 0) (kind := 1) (a := p0) (As := [.ref p1, .int q36.1]) (y := 72) (is := List.drop 67 mC72) (L := [.ref p0, .ref p1, w2, .int s.1, .int q36.1]) (rest := []) (μ := q36.2) rfl (by decide) (by decide) ⟨rfl, rfl⟩ rfl h38 (Nat.le_of_ble_eq_true rfl) (Nat.le_of_ble_eq_true rfl) (t75 h40) ?_
      refine gSt1 (L := [.ref p0, .ref p1, w2, .int s.1, .int q36.1]) (q := 3) (w := .int (s.1 + 1)) (is := List.drop 68 mC72) (st := []) (μ := q39) rfl (Nat.le_of_ble_eq_true rfl) hw2 ?_
      refine mGo.steps 1 (c' := (72, List.drop 52 mC72, [.ref p0, .ref p1, w2, .int (s.1 + 1), .int q36.1], [], q39)) rfl ?_
      obtain rfl := Option.some.inj hr
      exact hC w2 hw2 (.int q36.1) rfl
    · refine gBrF (p := ¬ q36.1 = (-1)) (y := 72) (is := List.drop 62 mC72) (L := [.ref p0, .ref p1, w2, .int s.1, .int q36.1]) (st := []) (μ := q36.2) (t := 110) rfl h41 ?_
      obtain rfl := Option.some.inj hr
      rw [show r = _ from hC]
      exact gVret rfl
theorem t72L52l (p0 : Nat) (p1 : Nat) {r : Option Value × mM} (n : Nat) (s : Int32 × mM) (o : (mM) ⊕ mM) (hr : mLoop (s72L52 p0 p1) n s = some o) (hC : Sum.elim (fun x : mM => ∀ (w0 : Value) (hw0 : mNotL w0 = true) (w1 : Value) (hw1 : mNotL w1 = true) (w2 : Value) (hw2 : mNotL w2 = true) (w3 : Value) (hw3 : mNotL w3 = true) (w4 : Value) (hw4 : mNotL w4 = true), mGo mG (72, List.drop 69 mC72, [w0, w1, w2, w3, w4], [], x) r) (fun y : mM => r = (none, y)) o) : ∀ (w2 : Value) (hw2 : mNotL w2 = true) (w4 : Value) (hw4 : mNotL w4 = true), mGo mG (72, List.drop 52 mC72, [.ref p0, .ref p1, w2, .int s.1, w4], [], s.2) r :=
  mLoop_go (Hd := (fun s' : Int32 × mM => ∀ (w2 : Value) (hw2 : mNotL w2 = true) (w4 : Value) (hw4 : mNotL w4 = true), mGo mG (72, List.drop 52 mC72, [.ref p0, .ref p1, w2, .int s'.1, w4], [], s'.2) r)) (fun s o hb hC => t72L52 p0 p1 s o hb hC) n s o hr hC
def s72 (μ : mM) (a0 : Nat) (a1 : Nat) (a2 : Int32) : Option mM :=
  (mLoop (s72L2 a0 a1 a2) 1000 (1, μ)).bind fun o15 => Sum.elim (fun x16 => (mLoop (s72L31 a0 a1) 1000 (0, x16)).bind fun o31 => Sum.elim (fun x32 => (mLoop (s72L52 a0 a1) 1000 (0, x32)).bind fun o43 => Sum.elim (fun x44 => some x44) (fun y45 => some y45) o43) (fun y33 => some y33) o31) (fun y17 => some y17) o15
set_option maxRecDepth 20000 in
theorem t72 {μ : mM} {a0 : Nat} {a1 : Nat} {a2 : Int32} {o : mM} (hr : s72 μ a0 a1 a2 = some o) : mEv mG 72 [.ref a0, .ref a1, .int a2] μ (none) (o) := by
  obtain ⟨r, hC⟩ : ∃ r : Option Value × mM, r = (none, o) := ⟨_, rfl⟩
  show mGo mG (72, List.drop 0 mC72, [.ref a0, .ref a1, .int a2, .retAddr 0, .retAddr 0], [], μ) (none, o)
  rw [← hC]
  unfold s72 at hr
  refine mGo.steps 2 (c' := (72, List.drop 2 mC72, [.ref a0, .ref a1, .int a2, .int 1, .retAddr 0], [], μ)) rfl ?_
  obtain ⟨o15, h18, hr⟩ := mBi hr
  refine t72L2l a0 a1 a2 1000 (1, μ) o15 h18 ?_ (.retAddr 0) rfl
  cases o15 with
  | inl x16 =>
    show ∀ (w2 : Value) (hw2 : mNotL w2 = true) (w3 : Value) (hw3 : mNotL w3 = true) (w4 : Value) (hw4 : mNotL w4 = true), mGo mG (72, List.drop 29 mC72, [.ref a0, .ref a1, w2, w3, w4], [], x16) r
    intro w2 hw2 w3 hw3 w4 hw4
    replace hr : (_) = some _ := hr
    refine mGo.steps 1 (c' := (72, List.drop 30 mC72, [.ref a0, .ref a1, w2, w3, w4], [.int 0], x16)) rfl ?_
    refine gSt1 (L := [.ref a0, .ref a1, w2, w3, w4]) (q := 3) (w := .int 0) (is := List.drop 31 mC72) (st := []) (μ := x16) rfl (Nat.le_of_ble_eq_true rfl) hw2 ?_
    obtain ⟨o31, h34, hr⟩ := mBi hr
    refine t72L31l a0 a1 1000 (0, x16) o31 h34 ?_ w2 hw2 w4 hw4
    cases o31 with
    | inl x32 =>
      show ∀ (w2 : Value) (hw2 : mNotL w2 = true) (w3 : Value) (hw3 : mNotL w3 = true) (w4 : Value) (hw4 : mNotL w4 = true), mGo mG (72, List.drop 50 mC72, [.ref a0, .ref a1, w2, w3, w4], [], x32) r
      intro w2 hw2 w3 hw3 w4 hw4
      replace hr : (_) = some _ := hr
      refine mGo.steps 1 (c' := (72, List.drop 51 mC72, [.ref a0, .ref a1, w2, w3, w4], [.int 0], x32)) rfl ?_
      refine gSt1 (L := [.ref a0, .ref a1, w2, w3, w4]) (q := 3) (w := .int 0) (is := List.drop 52 mC72) (st := []) (μ := x32) rfl (Nat.le_of_ble_eq_true rfl) hw2 ?_
      obtain ⟨o43, h46, hr⟩ := mBi hr
      refine t72L52l a0 a1 1000 (0, x32) o43 h46 ?_ w2 hw2 w4 hw4
      cases o43 with
      | inl x44 =>
        show ∀ (w0 : Value) (hw0 : mNotL w0 = true) (w1 : Value) (hw1 : mNotL w1 = true) (w2 : Value) (hw2 : mNotL w2 = true) (w3 : Value) (hw3 : mNotL w3 = true) (w4 : Value) (hw4 : mNotL w4 = true), mGo mG (72, List.drop 69 mC72, [w0, w1, w2, w3, w4], [], x44) r
        intro w0 hw0 w1 hw1 w2 hw2 w3 hw3 w4 hw4
        replace hr : (_) = some _ := hr
        obtain rfl := Option.some.inj hr
        rw [show r = _ from hC]
        exact gVret rfl
      | inr y45 =>
        obtain rfl := Option.some.inj hr
        exact hC
    | inr y33 =>
      obtain rfl := Option.some.inj hr
      exact hC
  | inr y17 =>
    obtain rfl := Option.some.inj hr
    exact hC

/-! 96: TunnelFabric.<init>()V -/
def s96 (μ : mM) (a0 : Nat) : Option mM :=
  if ¬ a0 = 0 then (some (mNew μ 3 (mN 3))).bind fun μ2 => if (mS μ2 (mNx μ)).1 = 3 then (s59 μ2 (mNx μ)).bind fun q4 => if (mS q4 a0).1 = 8 then (some (mUP q4 a0 0 (mNx μ))).bind fun μ7 => (some (mNew μ7 1 (mN 1))).bind fun μ8 => if (mS μ8 (mNx μ7)).1 = 1 then (s12 μ8 (mNx μ7)).bind fun q10 => if (mS q10 a0).1 = 8 then (some (mUP q10 a0 1 (mNx μ7))).bind fun μ13 => (some (mNew μ13 (20 + 1) (Int32.toNatClampNeg 2))).bind fun μ14 => if (mS μ14 a0).1 = 8 then (some (mUP μ14 a0 2 (mNx μ13))).bind fun μ16 => (some (mNew μ16 0 (mN 0))).bind fun μ17 => if (mS μ17 (mNx μ16)).1 = 0 then (s0 μ17 (mNx μ16)).bind fun q19 => if (mS q19 a0).1 = 8 then (some (mUP q19 a0 3 (mNx μ16))).bind fun μ22 => (some (mNew μ22 5 (mN 5))).bind fun μ23 => if (mS μ23 (mNx μ22)).1 = 5 then (s71 μ23 (mNx μ22)).bind fun q25 => if (mS q25 a0).1 = 8 then (some (mUP q25 a0 4 (mNx μ22))).bind fun μ28 => (some (mNew μ28 10 (Int32.toNatClampNeg 10))).bind fun μ29 => if (mS μ29 a0).1 = 8 then (some (mUP μ29 a0 5 (mNx μ28))).bind fun μ31 => some μ31 else none else none else none else none else none else none else none else none else none else none else none
set_option maxRecDepth 20000 in
theorem t96 {μ : mM} {a0 : Nat} {o : mM} (hr : s96 μ a0 = some o) : mEv mG 96 [.ref a0] μ (none) (o) := by
  obtain ⟨r, hC⟩ : ∃ r : Option Value × mM, r = (none, o) := ⟨_, rfl⟩
  show mGo mG (96, List.drop 0 mC96, [.ref a0], [], μ) (none, o)
  rw [← hC]
  unfold s96 at hr
  refine mGo.steps 1 (c' := (96, List.drop 1 mC96, [.ref a0], [.ref a0], μ)) rfl ?_
  obtain ⟨h1, hr⟩ := mIf hr
  refine gObj (is := List.drop 2 mC96) h1 (Nat.le_of_ble_eq_true rfl) ?_
  refine mGo.steps 1 (c' := (96, List.drop 3 mC96, [.ref a0], [.ref a0], μ)) rfl ?_
  replace hr := mBs hr
  refine mGo.steps 1 (c' := (96, List.drop 4 mC96, [.ref a0], [.ref (mNx μ), .ref a0], (mNew μ 3 (mN 3)))) rfl ?_
  let μ2 : mM := mNew μ 3 (mN 3)
  refine mGo.steps 1 (c' := (96, List.drop 5 mC96, [.ref a0], [.ref (mNx μ), .ref (mNx μ), .ref a0], μ2)) rfl ?_
  obtain ⟨h3, hr⟩ := mIf hr
  obtain ⟨q4, h5, hr⟩ := mBi hr
  refine gCall (z := 59) (n := 0) (f := 1) (kind := 2) (a := (mNx μ)) (As := []) (y := 96) (is := List.drop 6 mC96) (L := [.ref a0]) (rest := [.ref (mNx μ), .ref a0]) (μ := μ2) rfl (by decide) (by decide) ⟨rfl, rfl⟩ rfl h3 (Nat.le_of_ble_eq_true rfl) (Nat.le_of_ble_eq_true rfl) (t59 h5) ?_
  obtain ⟨h6, hr⟩ := mIf hr
  replace hr := mBs hr
  refine gPut (is := List.drop 7 mC96) (μ' := mUP q4 a0 0 (mNx μ)) h6 rfl ?_
  let μ7 : mM := mUP q4 a0 0 (mNx μ)
  refine mGo.steps 1 (c' := (96, List.drop 8 mC96, [.ref a0], [.ref a0], μ7)) rfl ?_
  replace hr := mBs hr
  refine mGo.steps 1 (c' := (96, List.drop 9 mC96, [.ref a0], [.ref (mNx μ7), .ref a0], (mNew μ7 1 (mN 1)))) rfl ?_
  let μ8 : mM := mNew μ7 1 (mN 1)
  refine mGo.steps 1 (c' := (96, List.drop 10 mC96, [.ref a0], [.ref (mNx μ7), .ref (mNx μ7), .ref a0], μ8)) rfl ?_
  obtain ⟨h9, hr⟩ := mIf hr
  obtain ⟨q10, h11, hr⟩ := mBi hr
  refine gCall (z := 12) (n := 0) (f := 0) (kind := 2) (a := (mNx μ7)) (As := []) (y := 96) (is := List.drop 11 mC96) (L := [.ref a0]) (rest := [.ref (mNx μ7), .ref a0]) (μ := μ8) rfl (by decide) (by decide) ⟨rfl, rfl⟩ rfl h9 (Nat.le_of_ble_eq_true rfl) (Nat.le_of_ble_eq_true rfl) (t12 h11) ?_
  obtain ⟨h12, hr⟩ := mIf hr
  replace hr := mBs hr
  refine gPut (is := List.drop 12 mC96) (μ' := mUP q10 a0 1 (mNx μ7)) h12 rfl ?_
  let μ13 : mM := mUP q10 a0 1 (mNx μ7)
  refine mGo.steps 2 (c' := (96, List.drop 14 mC96, [.ref a0], [.int 2, .ref a0], μ13)) rfl ?_
  replace hr := mBs hr
  refine mGo.steps 1 (c' := (96, List.drop 15 mC96, [.ref a0], [.ref (mNx μ13), .ref a0], (mNew μ13 (20 + 1) (Int32.toNatClampNeg 2)))) rfl ?_
  let μ14 : mM := mNew μ13 (20 + 1) (Int32.toNatClampNeg 2)
  obtain ⟨h15, hr⟩ := mIf hr
  replace hr := mBs hr
  refine gPut (is := List.drop 16 mC96) (μ' := mUP μ14 a0 2 (mNx μ13)) h15 rfl ?_
  let μ16 : mM := mUP μ14 a0 2 (mNx μ13)
  refine mGo.steps 1 (c' := (96, List.drop 17 mC96, [.ref a0], [.ref a0], μ16)) rfl ?_
  replace hr := mBs hr
  refine mGo.steps 1 (c' := (96, List.drop 18 mC96, [.ref a0], [.ref (mNx μ16), .ref a0], (mNew μ16 0 (mN 0)))) rfl ?_
  let μ17 : mM := mNew μ16 0 (mN 0)
  refine mGo.steps 1 (c' := (96, List.drop 19 mC96, [.ref a0], [.ref (mNx μ16), .ref (mNx μ16), .ref a0], μ17)) rfl ?_
  obtain ⟨h18, hr⟩ := mIf hr
  obtain ⟨q19, h20, hr⟩ := mBi hr
  refine gCall (z := 0) (n := 0) (f := 1) (kind := 2) (a := (mNx μ16)) (As := []) (y := 96) (is := List.drop 20 mC96) (L := [.ref a0]) (rest := [.ref (mNx μ16), .ref a0]) (μ := μ17) rfl (by decide) (by decide) ⟨rfl, rfl⟩ rfl h18 (Nat.le_of_ble_eq_true rfl) (Nat.le_of_ble_eq_true rfl) (t0 h20) ?_
  obtain ⟨h21, hr⟩ := mIf hr
  replace hr := mBs hr
  refine gPut (is := List.drop 21 mC96) (μ' := mUP q19 a0 3 (mNx μ16)) h21 rfl ?_
  let μ22 : mM := mUP q19 a0 3 (mNx μ16)
  refine mGo.steps 1 (c' := (96, List.drop 22 mC96, [.ref a0], [.ref a0], μ22)) rfl ?_
  replace hr := mBs hr
  refine mGo.steps 1 (c' := (96, List.drop 23 mC96, [.ref a0], [.ref (mNx μ22), .ref a0], (mNew μ22 5 (mN 5)))) rfl ?_
  let μ23 : mM := mNew μ22 5 (mN 5)
  refine mGo.steps 1 (c' := (96, List.drop 24 mC96, [.ref a0], [.ref (mNx μ22), .ref (mNx μ22), .ref a0], μ23)) rfl ?_
  obtain ⟨h24, hr⟩ := mIf hr
  obtain ⟨q25, h26, hr⟩ := mBi hr
  refine gCall (z := 71) (n := 0) (f := 1) (kind := 2) (a := (mNx μ22)) (As := []) (y := 96) (is := List.drop 25 mC96) (L := [.ref a0]) (rest := [.ref (mNx μ22), .ref a0]) (μ := μ23) rfl (by decide) (by decide) ⟨rfl, rfl⟩ rfl h24 (Nat.le_of_ble_eq_true rfl) (Nat.le_of_ble_eq_true rfl) (t71 h26) ?_
  obtain ⟨h27, hr⟩ := mIf hr
  replace hr := mBs hr
  refine gPut (is := List.drop 26 mC96) (μ' := mUP q25 a0 4 (mNx μ22)) h27 rfl ?_
  let μ28 : mM := mUP q25 a0 4 (mNx μ22)
  refine mGo.steps 2 (c' := (96, List.drop 28 mC96, [.ref a0], [.int 10, .ref a0], μ28)) rfl ?_
  replace hr := mBs hr
  refine mGo.steps 1 (c' := (96, List.drop 29 mC96, [.ref a0], [.ref (mNx μ28), .ref a0], (mNew μ28 10 (Int32.toNatClampNeg 10)))) rfl ?_
  let μ29 : mM := mNew μ28 10 (Int32.toNatClampNeg 10)
  obtain ⟨h30, hr⟩ := mIf hr
  replace hr := mBs hr
  refine gPut (is := List.drop 30 mC96) (μ' := mUP μ29 a0 5 (mNx μ28)) h30 rfl ?_
  let μ31 : mM := mUP μ29 a0 5 (mNx μ28)
  obtain rfl := Option.some.inj hr
  rw [show r = _ from hC]
  exact gVret rfl

/-! 97: TunnelFabric.type(I)I -/
def s97_17 (a0 : Nat) (a1 : Int32) (μ : mM) (t0 : Int32) : Option (Int32 × mM) :=
  some (t0, μ)
set_option maxRecDepth 20000 in
theorem t97_17 (a0 : Nat) (a1 : Int32) (μ : mM) (t0 : Int32) (w0 : Value) (hw0 : mNotL w0 = true) (w1 : Value) (hw1 : mNotL w1 = true) {o : (Int32 × mM)} {r : Option Value × mM} (hr : s97_17 a0 a1 μ t0 = some o) (hC : r = (some (.int o.1), o.2)) : mGo mG (97, List.drop 17 mC97, [w0, w1], [.int t0], μ) r := by
  unfold s97_17 at hr
  obtain rfl := Option.some.inj hr
  rw [show r = _ from hC]
  exact gIret rfl
def s97 (μ : mM) (a0 : Nat) (a1 : Int32) : Option (Int32 × mM) :=
  (s131 μ a1 0 127).bind fun q1 => if ¬ q1 = 0 then (if (mS μ a0).1 = 8 then if (mS μ (mP μ a0 0)).1 = 3 then (s60 μ (mP μ a0 0) a1).bind fun q5 => if q5.1 = 0 then (s97_17 a0 a1 q5.2 (-5)) else (if (mS q5.2 a0).1 = 8 then if (mS q5.2 (mP q5.2 a0 0)).1 = 3 then s97_17 a0 a1 q5.2 (mI q5.2 (mP q5.2 a0 0) 1) else none else none) else none else none) else (some ((-1), μ))
set_option maxRecDepth 20000 in
theorem t97 {μ : mM} {a0 : Nat} {a1 : Int32} {o : (Int32 × mM)} (hr : s97 μ a0 a1 = some o) : mEv mG 97 [.ref a0, .int a1] μ (some (.int o.1)) (o.2) := by
  obtain ⟨r, hC⟩ : ∃ r : Option Value × mM, r = (some (.int o.1), o.2) := ⟨_, rfl⟩
  show mGo mG (97, List.drop 0 mC97, [.ref a0, .int a1], [], μ) (some (.int o.1), o.2)
  rw [← hC]
  unfold s97 at hr
  refine mGo.steps 3 (c' := (97, List.drop 3 mC97, [.ref a0, .int a1], [.int 127, .int 0, .int a1], μ)) rfl ?_
  obtain ⟨q1, h2, hr⟩ := mBi hr
  refine mGo.call (z := 131) (as := [.int a1, .int 0, .int 127]) (y := 97) (is := List.drop 4 mC97) (L := [.ref a0, .int a1]) (st := []) (μ := μ) rfl (t131 h2) ?_
  rcases mIte hr with ⟨h10, hr⟩ | ⟨h10, hr⟩
  · refine gBrT (p := ¬ q1 = 0) (y := 97) (is := List.drop 5 mC97) (L := [.ref a0, .int a1]) (st := []) (μ := μ) (t := 12) rfl h10 ?_
    refine mGo.steps 1 (c' := (97, List.drop 8 mC97, [.ref a0, .int a1], [.ref a0], μ)) rfl ?_
    obtain ⟨h3, hr⟩ := mIf hr
    refine gGet (is := List.drop 9 mC97) (v := .ref (mP μ a0 0)) h3 rfl ?_
    refine mGo.steps 1 (c' := (97, List.drop 10 mC97, [.ref a0, .int a1], [.int a1, .ref (mP μ a0 0)], μ)) rfl ?_
    obtain ⟨h4, hr⟩ := mIf hr
    obtain ⟨q5, h6, hr⟩ := mBi hr
    refine gCall (z := 60) (n := 1) (f := 0) (kind := 1) (a := (mP μ a0 0)) (As := [.int a1]) (y := 97) (is := List.drop 11 mC97) (L := [.ref a0, .int a1]) (rest := []) (μ := μ) rfl (by decide) (by decide) ⟨rfl, rfl⟩ rfl h4 (Nat.le_of_ble_eq_true rfl) (Nat.le_of_ble_eq_true rfl) (t60 h6) ?_
    rcases mIte hr with ⟨h9, hr⟩ | ⟨h9, hr⟩
    · refine gBrT (p := q5.1 = 0) (y := 97) (is := List.drop 12 mC97) (L := [.ref a0, .int a1]) (st := []) (μ := q5.2) (t := 33) rfl h9 ?_
      refine mGo.steps 1 (c' := (97, List.drop 17 mC97, [.ref a0, .int a1], [.int (-5)], q5.2)) rfl ?_
      exact t97_17 a0 a1 q5.2 (-5) (.ref a0) rfl (.int a1) rfl hr hC
    · refine gBrF (p := q5.1 = 0) (y := 97) (is := List.drop 12 mC97) (L := [.ref a0, .int a1]) (st := []) (μ := q5.2) (t := 33) rfl h9 ?_
      refine mGo.steps 1 (c' := (97, List.drop 13 mC97, [.ref a0, .int a1], [.ref a0], q5.2)) rfl ?_
      obtain ⟨h7, hr⟩ := mIf hr
      refine gGet (is := List.drop 14 mC97) (v := .ref (mP q5.2 a0 0)) h7 rfl ?_
      obtain ⟨h8, hr⟩ := mIf hr
      refine gGet (is := List.drop 15 mC97) (v := .int (mI q5.2 (mP q5.2 a0 0) 1)) h8 rfl ?_
      refine mGo.steps 1 (c' := (97, List.drop 17 mC97, [.ref a0, .int a1], [.int (mI q5.2 (mP q5.2 a0 0) 1)], q5.2)) rfl ?_
      exact t97_17 a0 a1 q5.2 (mI q5.2 (mP q5.2 a0 0) 1) (.ref a0) rfl (.int a1) rfl hr hC
  · refine gBrF (p := ¬ q1 = 0) (y := 97) (is := List.drop 5 mC97) (L := [.ref a0, .int a1]) (st := []) (μ := μ) (t := 12) rfl h10 ?_
    refine mGo.steps 1 (c' := (97, List.drop 6 mC97, [.ref a0, .int a1], [.int (-1)], μ)) rfl ?_
    obtain rfl := Option.some.inj hr
    rw [show r = _ from hC]
    exact gIret rfl

/-! 98: TunnelFabric.clearText()I -/
def s98 (μ : mM) (a0 : Nat) : Option (Int32 × mM) :=
  if (mS μ a0).1 = 8 then if (mS μ (mP μ a0 0)).1 = 3 then (some (mUI μ (mP μ a0 0) 1 0)).bind fun μ3 => some (mI μ (mP μ a0 0) 1, μ3) else none else none
set_option maxRecDepth 20000 in
theorem t98 {μ : mM} {a0 : Nat} {o : (Int32 × mM)} (hr : s98 μ a0 = some o) : mEv mG 98 [.ref a0] μ (some (.int o.1)) (o.2) := by
  obtain ⟨r, hC⟩ : ∃ r : Option Value × mM, r = (some (.int o.1), o.2) := ⟨_, rfl⟩
  show mGo mG (98, List.drop 0 mC98, [.ref a0, .retAddr 0], [], μ) (some (.int o.1), o.2)
  rw [← hC]
  unfold s98 at hr
  refine mGo.steps 1 (c' := (98, List.drop 1 mC98, [.ref a0, .retAddr 0], [.ref a0], μ)) rfl ?_
  obtain ⟨h1, hr⟩ := mIf hr
  refine gGet (is := List.drop 2 mC98) (v := .ref (mP μ a0 0)) h1 rfl ?_
  obtain ⟨h2, hr⟩ := mIf hr
  refine gGet (is := List.drop 3 mC98) (v := .int (mI μ (mP μ a0 0) 1)) h2 rfl ?_
  refine mGo.steps 2 (c' := (98, List.drop 5 mC98, [.ref a0, .int (mI μ (mP μ a0 0) 1)], [.ref a0], μ)) rfl ?_
  refine gGet (is := List.drop 6 mC98) (v := .ref (mP μ a0 0)) h1 rfl ?_
  refine mGo.steps 1 (c' := (98, List.drop 7 mC98, [.ref a0, .int (mI μ (mP μ a0 0) 1)], [.int 0, .ref (mP μ a0 0)], μ)) rfl ?_
  replace hr := mBs hr
  refine gPut (is := List.drop 8 mC98) (μ' := mUI μ (mP μ a0 0) 1 0) h2 rfl ?_
  let μ3 : mM := mUI μ (mP μ a0 0) 1 0
  refine mGo.steps 1 (c' := (98, List.drop 9 mC98, [.ref a0, .int (mI μ (mP μ a0 0) 1)], [.int (mI μ (mP μ a0 0) 1)], μ3)) rfl ?_
  obtain rfl := Option.some.inj hr
  rw [show r = _ from hC]
  exact gIret rfl

/-! 99: TunnelFabric.fault()I -/
def s99 (μ : mM) (a0 : Nat) : Option (Int32 × mM) :=
  if (mS μ a0).1 = 8 then if (mS μ (mP μ a0 0)).1 = 3 then (s61 μ (mP μ a0 0)).bind fun q3 => some (q3.1, q3.2) else none else none
set_option maxRecDepth 20000 in
theorem t99 {μ : mM} {a0 : Nat} {o : (Int32 × mM)} (hr : s99 μ a0 = some o) : mEv mG 99 [.ref a0] μ (some (.int o.1)) (o.2) := by
  obtain ⟨r, hC⟩ : ∃ r : Option Value × mM, r = (some (.int o.1), o.2) := ⟨_, rfl⟩
  show mGo mG (99, List.drop 0 mC99, [.ref a0], [], μ) (some (.int o.1), o.2)
  rw [← hC]
  unfold s99 at hr
  refine mGo.steps 1 (c' := (99, List.drop 1 mC99, [.ref a0], [.ref a0], μ)) rfl ?_
  obtain ⟨h1, hr⟩ := mIf hr
  refine gGet (is := List.drop 2 mC99) (v := .ref (mP μ a0 0)) h1 rfl ?_
  obtain ⟨h2, hr⟩ := mIf hr
  obtain ⟨q3, h4, hr⟩ := mBi hr
  refine gCall (z := 61) (n := 0) (f := 0) (kind := 1) (a := (mP μ a0 0)) (As := []) (y := 99) (is := List.drop 3 mC99) (L := [.ref a0]) (rest := []) (μ := μ) rfl (by decide) (by decide) ⟨rfl, rfl⟩ rfl h2 (Nat.le_of_ble_eq_true rfl) (Nat.le_of_ble_eq_true rfl) (t61 h4) ?_
  obtain rfl := Option.some.inj hr
  rw [show r = _ from hC]
  exact gIret rfl

/-! 100: TunnelFabric.build()I -/
def s100L9_25 (p0 : Nat) (μ : mM) (v1 : Int32) : Option ((Int32 × mM) ⊕ ((mM) ⊕ (Int32 × mM))) :=
  some (.inl (v1 + 1, μ))
set_option maxRecDepth 20000 in
theorem t100L9_25 (p0 : Nat) (μ : mM) (v1 : Int32) {o : ((Int32 × mM) ⊕ ((mM) ⊕ (Int32 × mM)))} {r : Option Value × mM} (hr : s100L9_25 p0 μ v1 = some o) (hC : Sum.elim (fun s' : Int32 × mM => mGo mG (100, List.drop 9 mC100, [.ref p0, .int s'.1], [], s'.2) r) (Sum.elim (fun x : mM => ∀ (w1 : Value) (hw1 : mNotL w1 = true), mGo mG (100, List.drop 27 mC100, [.ref p0, w1], [], x) r) (fun y : (Int32 × mM) => r = (some (.int y.1), y.2))) o) : mGo mG (100, List.drop 25 mC100, [.ref p0, .int v1], [], μ) r := by
  unfold s100L9_25 at hr
  refine mGo.steps 2 (c' := (100, List.drop 9 mC100, [.ref p0, .int (v1 + 1)], [], μ)) rfl ?_
  obtain rfl := Option.some.inj hr
  exact hC
def s100L9 (p0 : Nat) (s : Int32 × mM) : Option ((Int32 × mM) ⊕ ((mM) ⊕ (Int32 × mM))) :=
  if 10 ≤ s.1 then (some (.inr (.inl s.2))) else (if (mS s.2 p0).1 = 8 then if (mS s.2 (mP s.2 p0 1)).1 = 1 then (s17 s.2 (mP s.2 p0 1) s.1).bind fun q7 => if q7 = 0 then (s100L9_25 p0 s.2 s.1) else ((s50 s.2 (mP s.2 p0 1) s.1).bind fun q9 => if (mS q9.2 p0).1 = 8 then if (mS q9.2 (mP q9.2 p0 1)).1 = 1 then (s34 q9.2 (mP q9.2 p0 1)).bind fun q13 => s100L9_25 p0 q13 s.1 else none else none) else none else none)
set_option maxRecDepth 20000 in
theorem t100L9 (p0 : Nat) {r : Option Value × mM} (s : Int32 × mM) (o : ((Int32 × mM) ⊕ ((mM) ⊕ (Int32 × mM)))) (hr : s100L9 p0 s = some o) (hC : Sum.elim (fun s' : Int32 × mM => mGo mG (100, List.drop 9 mC100, [.ref p0, .int s'.1], [], s'.2) r) (Sum.elim (fun x : mM => ∀ (w1 : Value) (hw1 : mNotL w1 = true), mGo mG (100, List.drop 27 mC100, [.ref p0, w1], [], x) r) (fun y : (Int32 × mM) => r = (some (.int y.1), y.2))) o) : mGo mG (100, List.drop 9 mC100, [.ref p0, .int s.1], [], s.2) r := by
  unfold s100L9 at hr
  refine mGo.steps 2 (c' := (100, List.drop 11 mC100, [.ref p0, .int s.1], [.int 10, .int s.1], s.2)) rfl ?_
  rcases mIte hr with ⟨h16, hr⟩ | ⟨h16, hr⟩
  · refine gBrT (p := 10 ≤ s.1) (y := 100) (is := List.drop 12 mC100) (L := [.ref p0, .int s.1]) (st := []) (μ := s.2) (t := 56) rfl h16 ?_
    obtain rfl := Option.some.inj hr
    exact hC (.int s.1) rfl
  · refine gBrF (p := 10 ≤ s.1) (y := 100) (is := List.drop 12 mC100) (L := [.ref p0, .int s.1]) (st := []) (μ := s.2) (t := 56) rfl h16 ?_
    refine mGo.steps 1 (c' := (100, List.drop 13 mC100, [.ref p0, .int s.1], [.ref p0], s.2)) rfl ?_
    obtain ⟨h5, hr⟩ := mIf hr
    refine gGet (is := List.drop 14 mC100) (v := .ref (mP s.2 p0 1)) h5 rfl ?_
    refine mGo.steps 1 (c' := (100, List.drop 15 mC100, [.ref p0, .int s.1], [.int s.1, .ref (mP s.2 p0 1)], s.2)) rfl ?_
    obtain ⟨h6, hr⟩ := mIf hr
    obtain ⟨q7, h8, hr⟩ := mBi hr
    refine gCall (z := 17) (n := 1) (f := 0) (kind := 1) (a := (mP s.2 p0 1)) (As := [.int s.1]) (y := 100) (is := List.drop 16 mC100) (L := [.ref p0, .int s.1]) (rest := []) (μ := s.2) rfl (by decide) (by decide) ⟨rfl, rfl⟩ rfl h6 (Nat.le_of_ble_eq_true rfl) (Nat.le_of_ble_eq_true rfl) (t17 h8) ?_
    rcases mIte hr with ⟨h15, hr⟩ | ⟨h15, hr⟩
    · refine gBrT (p := q7 = 0) (y := 100) (is := List.drop 17 mC100) (L := [.ref p0, .int s.1]) (st := []) (μ := s.2) (t := 50) rfl h15 ?_
      exact t100L9_25 p0 s.2 s.1 hr hC
    · refine gBrF (p := q7 = 0) (y := 100) (is := List.drop 17 mC100) (L := [.ref p0, .int s.1]) (st := []) (μ := s.2) (t := 50) rfl h15 ?_
      refine mGo.steps 1 (c' := (100, List.drop 18 mC100, [.ref p0, .int s.1], [.ref p0], s.2)) rfl ?_
      refine gGet (is := List.drop 19 mC100) (v := .ref (mP s.2 p0 1)) h5 rfl ?_
      refine mGo.steps 1 (c' := (100, List.drop 20 mC100, [.ref p0, .int s.1], [.int s.1, .ref (mP s.2 p0 1)], s.2)) rfl ?_
      obtain ⟨q9, h10, hr⟩ := mBi hr
      refine gCall (z := 50) (n := 1) (f := 0) (kind := 1) (a := (mP s.2 p0 1)) (As := [.int s.1]) (y := 100) (is := List.drop 21 mC100) (L := [.ref p0, .int s.1]) (rest := []) (μ := s.2) rfl (by decide) (by decide) ⟨rfl, rfl⟩ rfl h6 (Nat.le_of_ble_eq_true rfl) (Nat.le_of_ble_eq_true rfl) (t50 h10) ?_
      refine mGo.steps 2 (c' := (100, List.drop 23 mC100, [.ref p0, .int s.1], [.ref p0], q9.2)) rfl ?_
      obtain ⟨h11, hr⟩ := mIf hr
      refine gGet (is := List.drop 24 mC100) (v := .ref (mP q9.2 p0 1)) h11 rfl ?_
      obtain ⟨h12, hr⟩ := mIf hr
      obtain ⟨q13, h14, hr⟩ := mBi hr
      refine gCall (z := 34) (n := 0) (f := 0) (kind := 1) (a := (mP q9.2 p0 1)) (As := []) (y := 100) (is := List.drop 25 mC100) (L := [.ref p0, .int s.1]) (rest := []) (μ := q9.2) rfl (by decide) (by decide) ⟨rfl, rfl⟩ rfl h12 (Nat.le_of_ble_eq_true rfl) (Nat.le_of_ble_eq_true rfl) (t34 h14) ?_
      exact t100L9_25 p0 q13 s.1 hr hC
theorem t100L9l (p0 : Nat) {r : Option Value × mM} (n : Nat) (s : Int32 × mM) (o : (mM) ⊕ (Int32 × mM)) (hr : mLoop (s100L9 p0) n s = some o) (hC : Sum.elim (fun x : mM => ∀ (w1 : Value) (hw1 : mNotL w1 = true), mGo mG (100, List.drop 27 mC100, [.ref p0, w1], [], x) r) (fun y : (Int32 × mM) => r = (some (.int y.1), y.2)) o) : mGo mG (100, List.drop 9 mC100, [.ref p0, .int s.1], [], s.2) r :=
  mLoop_go (Hd := (fun s' : Int32 × mM => mGo mG (100, List.drop 9 mC100, [.ref p0, .int s'.1], [], s'.2) r)) (fun s o hb hC => t100L9 p0 s o hb hC) n s o hr hC
def s100L29 (p0 : Nat) (s : Int32 × mM) : Option ((Int32 × mM) ⊕ ((mM) ⊕ (Int32 × mM))) :=
  if 8 ≤ s.1 then (some (.inr (.inl s.2))) else (if (mS s.2 p0).1 = 8 then if (mS s.2 (mP s.2 p0 1)).1 = 1 then if (mS s.2 (mP s.2 (mP s.2 p0 1) 0)).1 = 20 + 4 ∧ mInb s.1 (mS s.2 (mP s.2 (mP s.2 p0 1) 0)).2 then if (mS s.2 (mP s.2 (mP s.2 (mP s.2 p0 1) 0) (Int32.toNatClampNeg s.1))).1 = 4 then (some (mUI s.2 (mP s.2 (mP s.2 (mP s.2 p0 1) 0) (Int32.toNatClampNeg s.1)) 0 0)).bind fun μ25 => some (.inl (s.1 + 1, μ25)) else none else none else none else none)
set_option maxRecDepth 20000 in
theorem t100L29 (p0 : Nat) {r : Option Value × mM} (s : Int32 × mM) (o : ((Int32 × mM) ⊕ ((mM) ⊕ (Int32 × mM)))) (hr : s100L29 p0 s = some o) (hC : Sum.elim (fun s' : Int32 × mM => mGo mG (100, List.drop 29 mC100, [.ref p0, .int s'.1], [], s'.2) r) (Sum.elim (fun x : mM => ∀ (w1 : Value) (hw1 : mNotL w1 = true), mGo mG (100, List.drop 41 mC100, [.ref p0, w1], [], x) r) (fun y : (Int32 × mM) => r = (some (.int y.1), y.2))) o) : mGo mG (100, List.drop 29 mC100, [.ref p0, .int s.1], [], s.2) r := by
  unfold s100L29 at hr
  refine mGo.steps 2 (c' := (100, List.drop 31 mC100, [.ref p0, .int s.1], [.int 8, .int s.1], s.2)) rfl ?_
  rcases mIte hr with ⟨h26, hr⟩ | ⟨h26, hr⟩
  · refine gBrT (p := 8 ≤ s.1) (y := 100) (is := List.drop 32 mC100) (L := [.ref p0, .int s.1]) (st := []) (μ := s.2) (t := 83) rfl h26 ?_
    obtain rfl := Option.some.inj hr
    exact hC (.int s.1) rfl
  · refine gBrF (p := 8 ≤ s.1) (y := 100) (is := List.drop 32 mC100) (L := [.ref p0, .int s.1]) (st := []) (μ := s.2) (t := 83) rfl h26 ?_
    refine mGo.steps 1 (c' := (100, List.drop 33 mC100, [.ref p0, .int s.1], [.ref p0], s.2)) rfl ?_
    obtain ⟨h21, hr⟩ := mIf hr
    refine gGet (is := List.drop 34 mC100) (v := .ref (mP s.2 p0 1)) h21 rfl ?_
    obtain ⟨h22, hr⟩ := mIf hr
    refine gGet (is := List.drop 35 mC100) (v := .ref (mP s.2 (mP s.2 p0 1) 0)) h22 rfl ?_
    refine mGo.steps 1 (c' := (100, List.drop 36 mC100, [.ref p0, .int s.1], [.int s.1, .ref (mP s.2 (mP s.2 p0 1) 0)], s.2)) rfl ?_
    obtain ⟨h23, hr⟩ := mIf hr
    refine gAald (is := List.drop 37 mC100) h23 ?_
    refine mGo.steps 1 (c' := (100, List.drop 38 mC100, [.ref p0, .int s.1], [.int 0, .ref (mP s.2 (mP s.2 (mP s.2 p0 1) 0) (Int32.toNatClampNeg s.1))], s.2)) rfl ?_
    obtain ⟨h24, hr⟩ := mIf hr
    replace hr := mBs hr
    refine gPut (is := List.drop 39 mC100) (μ' := mUI s.2 (mP s.2 (mP s.2 (mP s.2 p0 1) 0) (Int32.toNatClampNeg s.1)) 0 0) h24 (gZ (by decide)) ?_
    let μ25 : mM := mUI s.2 (mP s.2 (mP s.2 (mP s.2 p0 1) 0) (Int32.toNatClampNeg s.1)) 0 0
    refine mGo.steps 2 (c' := (100, List.drop 29 mC100, [.ref p0, .int (s.1 + 1)], [], μ25)) rfl ?_
    obtain rfl := Option.some.inj hr
    exact hC
theorem t100L29l (p0 : Nat) {r : Option Value × mM} (n : Nat) (s : Int32 × mM) (o : (mM) ⊕ (Int32 × mM)) (hr : mLoop (s100L29 p0) n s = some o) (hC : Sum.elim (fun x : mM => ∀ (w1 : Value) (hw1 : mNotL w1 = true), mGo mG (100, List.drop 41 mC100, [.ref p0, w1], [], x) r) (fun y : (Int32 × mM) => r = (some (.int y.1), y.2)) o) : mGo mG (100, List.drop 29 mC100, [.ref p0, .int s.1], [], s.2) r :=
  mLoop_go (Hd := (fun s' : Int32 × mM => mGo mG (100, List.drop 29 mC100, [.ref p0, .int s'.1], [], s'.2) r)) (fun s o hb hC => t100L29 p0 s o hb hC) n s o hr hC
def s100L43 (p0 : Nat) (s : Int32 × mM) : Option ((Int32 × mM) ⊕ ((mM) ⊕ (Int32 × mM))) :=
  if (mS s.2 p0).1 = 8 then if (mS s.2 (mP s.2 p0 0)).1 = 3 then if (mI s.2 (mP s.2 p0 0) 8) < s.1 then (some (.inr (.inl s.2))) else (if 8 ≤ s.1 then (some (.inr (.inl s.2))) else (if (mS s.2 (mP s.2 (mP s.2 p0 0) 4)).1 = 10 ∧ mInb s.1 (mS s.2 (mP s.2 (mP s.2 p0 0) 4)).2 then if (mS s.2 (mP s.2 (mP s.2 p0 0) 5)).1 = 10 ∧ mInb s.1 (mS s.2 (mP s.2 (mP s.2 p0 0) 5)).2 then if (mS s.2 (mP s.2 (mP s.2 p0 0) 2)).1 = 10 ∧ mInb s.1 (mS s.2 (mP s.2 (mP s.2 p0 0) 2)).2 then if (mS s.2 (mP s.2 (mP s.2 p0 0) 3)).1 = 10 ∧ mInb s.1 (mS s.2 (mP s.2 (mP s.2 p0 0) 3)).2 then if (mS s.2 (mP s.2 p0 1)).1 = 1 then (s25 s.2 (mP s.2 p0 1) s.1 (mI s.2 (mP s.2 (mP s.2 p0 0) 4) (Int32.toNatClampNeg s.1)) (mI s.2 (mP s.2 (mP s.2 p0 0) 5) (Int32.toNatClampNeg s.1)) (mI s.2 (mP s.2 (mP s.2 p0 0) 2) (Int32.toNatClampNeg s.1)) (mI s.2 (mP s.2 (mP s.2 p0 0) 3) (Int32.toNatClampNeg s.1))).bind fun q38 => some (.inl (s.1 + 1, q38)) else none else none else none else none else none)) else none else none
set_option maxRecDepth 20000 in
theorem t100L43 (p0 : Nat) {r : Option Value × mM} (s : Int32 × mM) (o : ((Int32 × mM) ⊕ ((mM) ⊕ (Int32 × mM)))) (hr : s100L43 p0 s = some o) (hC : Sum.elim (fun s' : Int32 × mM => mGo mG (100, List.drop 43 mC100, [.ref p0, .int s'.1], [], s'.2) r) (Sum.elim (fun x : mM => ∀ (w1 : Value) (hw1 : mNotL w1 = true), mGo mG (100, List.drop 77 mC100, [.ref p0, w1], [], x) r) (fun y : (Int32 × mM) => r = (some (.int y.1), y.2))) o) : mGo mG (100, List.drop 43 mC100, [.ref p0, .int s.1], [], s.2) r := by
  unfold s100L43 at hr
  refine mGo.steps 2 (c' := (100, List.drop 45 mC100, [.ref p0, .int s.1], [.ref p0, .int s.1], s.2)) rfl ?_
  obtain ⟨h31, hr⟩ := mIf hr
  refine gGet (is := List.drop 46 mC100) (v := .ref (mP s.2 p0 0)) h31 rfl ?_
  obtain ⟨h32, hr⟩ := mIf hr
  refine gGet (is := List.drop 47 mC100) (v := .int (mI s.2 (mP s.2 p0 0) 8)) h32 rfl ?_
  rcases mIte hr with ⟨h41, hr⟩ | ⟨h41, hr⟩
  · refine gBrT (p := (mI s.2 (mP s.2 p0 0) 8) < s.1) (y := 100) (is := List.drop 48 mC100) (L := [.ref p0, .int s.1]) (st := []) (μ := s.2) (t := 152) rfl h41 ?_
    obtain rfl := Option.some.inj hr
    exact hC (.int s.1) rfl
  · refine gBrF (p := (mI s.2 (mP s.2 p0 0) 8) < s.1) (y := 100) (is := List.drop 48 mC100) (L := [.ref p0, .int s.1]) (st := []) (μ := s.2) (t := 152) rfl h41 ?_
    refine mGo.steps 2 (c' := (100, List.drop 50 mC100, [.ref p0, .int s.1], [.int 8, .int s.1], s.2)) rfl ?_
    rcases mIte hr with ⟨h40, hr⟩ | ⟨h40, hr⟩
    · refine gBrT (p := 8 ≤ s.1) (y := 100) (is := List.drop 51 mC100) (L := [.ref p0, .int s.1]) (st := []) (μ := s.2) (t := 152) rfl h40 ?_
      obtain rfl := Option.some.inj hr
      exact hC (.int s.1) rfl
    · refine gBrF (p := 8 ≤ s.1) (y := 100) (is := List.drop 51 mC100) (L := [.ref p0, .int s.1]) (st := []) (μ := s.2) (t := 152) rfl h40 ?_
      refine mGo.steps 1 (c' := (100, List.drop 52 mC100, [.ref p0, .int s.1], [.ref p0], s.2)) rfl ?_
      refine gGet (is := List.drop 53 mC100) (v := .ref (mP s.2 p0 1)) h31 rfl ?_
      refine mGo.steps 2 (c' := (100, List.drop 55 mC100, [.ref p0, .int s.1], [.ref p0, .int s.1, .ref (mP s.2 p0 1)], s.2)) rfl ?_
      refine gGet (is := List.drop 56 mC100) (v := .ref (mP s.2 p0 0)) h31 rfl ?_
      refine gGet (is := List.drop 57 mC100) (v := .ref (mP s.2 (mP s.2 p0 0) 4)) h32 rfl ?_
      refine mGo.steps 1 (c' := (100, List.drop 58 mC100, [.ref p0, .int s.1], [.int s.1, .ref (mP s.2 (mP s.2 p0 0) 4), .int s.1, .ref (mP s.2 p0 1)], s.2)) rfl ?_
      obtain ⟨h33, hr⟩ := mIf hr
      refine gIald (is := List.drop 59 mC100) h33 ?_
      refine mGo.steps 1 (c' := (100, List.drop 60 mC100, [.ref p0, .int s.1], [.ref p0, .int (mI s.2 (mP s.2 (mP s.2 p0 0) 4) (Int32.toNatClampNeg s.1)), .int s.1, .ref (mP s.2 p0 1)], s.2)) rfl ?_
      refine gGet (is := List.drop 61 mC100) (v := .ref (mP s.2 p0 0)) h31 rfl ?_
      refine gGet (is := List.drop 62 mC100) (v := .ref (mP s.2 (mP s.2 p0 0) 5)) h32 rfl ?_
      refine mGo.steps 1 (c' := (100, List.drop 63 mC100, [.ref p0, .int s.1], [.int s.1, .ref (mP s.2 (mP s.2 p0 0) 5), .int (mI s.2 (mP s.2 (mP s.2 p0 0) 4) (Int32.toNatClampNeg s.1)), .int s.1, .ref (mP s.2 p0 1)], s.2)) rfl ?_
      obtain ⟨h34, hr⟩ := mIf hr
      refine gIald (is := List.drop 64 mC100) h34 ?_
      refine mGo.steps 1 (c' := (100, List.drop 65 mC100, [.ref p0, .int s.1], [.ref p0, .int (mI s.2 (mP s.2 (mP s.2 p0 0) 5) (Int32.toNatClampNeg s.1)), .int (mI s.2 (mP s.2 (mP s.2 p0 0) 4) (Int32.toNatClampNeg s.1)), .int s.1, .ref (mP s.2 p0 1)], s.2)) rfl ?_
      refine gGet (is := List.drop 66 mC100) (v := .ref (mP s.2 p0 0)) h31 rfl ?_
      refine gGet (is := List.drop 67 mC100) (v := .ref (mP s.2 (mP s.2 p0 0) 2)) h32 rfl ?_
      refine mGo.steps 1 (c' := (100, List.drop 68 mC100, [.ref p0, .int s.1], [.int s.1, .ref (mP s.2 (mP s.2 p0 0) 2), .int (mI s.2 (mP s.2 (mP s.2 p0 0) 5) (Int32.toNatClampNeg s.1)), .int (mI s.2 (mP s.2 (mP s.2 p0 0) 4) (Int32.toNatClampNeg s.1)), .int s.1, .ref (mP s.2 p0 1)], s.2)) rfl ?_
      obtain ⟨h35, hr⟩ := mIf hr
      refine gIald (is := List.drop 69 mC100) h35 ?_
      refine mGo.steps 1 (c' := (100, List.drop 70 mC100, [.ref p0, .int s.1], [.ref p0, .int (mI s.2 (mP s.2 (mP s.2 p0 0) 2) (Int32.toNatClampNeg s.1)), .int (mI s.2 (mP s.2 (mP s.2 p0 0) 5) (Int32.toNatClampNeg s.1)), .int (mI s.2 (mP s.2 (mP s.2 p0 0) 4) (Int32.toNatClampNeg s.1)), .int s.1, .ref (mP s.2 p0 1)], s.2)) rfl ?_
      refine gGet (is := List.drop 71 mC100) (v := .ref (mP s.2 p0 0)) h31 rfl ?_
      refine gGet (is := List.drop 72 mC100) (v := .ref (mP s.2 (mP s.2 p0 0) 3)) h32 rfl ?_
      refine mGo.steps 1 (c' := (100, List.drop 73 mC100, [.ref p0, .int s.1], [.int s.1, .ref (mP s.2 (mP s.2 p0 0) 3), .int (mI s.2 (mP s.2 (mP s.2 p0 0) 2) (Int32.toNatClampNeg s.1)), .int (mI s.2 (mP s.2 (mP s.2 p0 0) 5) (Int32.toNatClampNeg s.1)), .int (mI s.2 (mP s.2 (mP s.2 p0 0) 4) (Int32.toNatClampNeg s.1)), .int s.1, .ref (mP s.2 p0 1)], s.2)) rfl ?_
      obtain ⟨h36, hr⟩ := mIf hr
      refine gIald (is := List.drop 74 mC100) h36 ?_
      obtain ⟨h37, hr⟩ := mIf hr
      obtain ⟨q38, h39, hr⟩ := mBi hr
      refine gCall (z := 25) (n := 5) (f := 0) (kind := 1) (a := (mP s.2 p0 1)) (As := [.int s.1, .int (mI s.2 (mP s.2 (mP s.2 p0 0) 4) (Int32.toNatClampNeg s.1)), .int (mI s.2 (mP s.2 (mP s.2 p0 0) 5) (Int32.toNatClampNeg s.1)), .int (mI s.2 (mP s.2 (mP s.2 p0 0) 2) (Int32.toNatClampNeg s.1)), .int (mI s.2 (mP s.2 (mP s.2 p0 0) 3) (Int32.toNatClampNeg s.1))]) (y := 100) (is := List.drop 75 mC100) (L := [.ref p0, .int s.1]) (rest := []) (μ := s.2) rfl (by decide) (by decide) ⟨rfl, rfl⟩ rfl h37 (Nat.le_of_ble_eq_true rfl) (Nat.le_of_ble_eq_true rfl) (t25 h39) ?_
      refine mGo.steps 2 (c' := (100, List.drop 43 mC100, [.ref p0, .int (s.1 + 1)], [], q38)) rfl ?_
      obtain rfl := Option.some.inj hr
      exact hC
theorem t100L43l (p0 : Nat) {r : Option Value × mM} (n : Nat) (s : Int32 × mM) (o : (mM) ⊕ (Int32 × mM)) (hr : mLoop (s100L43 p0) n s = some o) (hC : Sum.elim (fun x : mM => ∀ (w1 : Value) (hw1 : mNotL w1 = true), mGo mG (100, List.drop 77 mC100, [.ref p0, w1], [], x) r) (fun y : (Int32 × mM) => r = (some (.int y.1), y.2)) o) : mGo mG (100, List.drop 43 mC100, [.ref p0, .int s.1], [], s.2) r :=
  mLoop_go (Hd := (fun s' : Int32 × mM => mGo mG (100, List.drop 43 mC100, [.ref p0, .int s'.1], [], s'.2) r)) (fun s o hb hC => t100L43 p0 s o hb hC) n s o hr hC
def s100_77 (a0 : Nat) (μ : mM) : Option (Int32 × mM) :=
  if (mS μ a0).1 = 8 then if (mS μ (mP μ a0 0)).1 = 3 then (some (mUI μ (mP μ a0 0) 1 0)).bind fun μ48 => if (mS μ48 (mP μ48 a0 1)).1 = 1 then (s19 μ48 (mP μ48 a0 1)).bind fun q50 => some (q50, μ48) else none else none else none
set_option maxRecDepth 20000 in
theorem t100_77 (a0 : Nat) (μ : mM) (w1 : Value) (hw1 : mNotL w1 = true) {o : (Int32 × mM)} {r : Option Value × mM} (hr : s100_77 a0 μ = some o) (hC : r = (some (.int o.1), o.2)) : mGo mG (100, List.drop 77 mC100, [.ref a0, w1], [], μ) r := by
  unfold s100_77 at hr
  refine mGo.steps 1 (c' := (100, List.drop 78 mC100, [.ref a0, w1], [.ref a0], μ)) rfl ?_
  obtain ⟨h46, hr⟩ := mIf hr
  refine gGet (is := List.drop 79 mC100) (v := .ref (mP μ a0 0)) h46 rfl ?_
  refine mGo.steps 1 (c' := (100, List.drop 80 mC100, [.ref a0, w1], [.int 0, .ref (mP μ a0 0)], μ)) rfl ?_
  obtain ⟨h47, hr⟩ := mIf hr
  replace hr := mBs hr
  refine gPut (is := List.drop 81 mC100) (μ' := mUI μ (mP μ a0 0) 1 0) h47 rfl ?_
  let μ48 : mM := mUI μ (mP μ a0 0) 1 0
  refine mGo.steps 1 (c' := (100, List.drop 82 mC100, [.ref a0, w1], [.ref a0], μ48)) rfl ?_
  refine gGet (is := List.drop 83 mC100) (v := .ref (mP μ48 a0 1)) h46 rfl ?_
  obtain ⟨h49, hr⟩ := mIf hr
  obtain ⟨q50, h51, hr⟩ := mBi hr
  refine gCall (z := 19) (n := 0) (f := 0) (kind := 1) (a := (mP μ48 a0 1)) (As := []) (y := 100) (is := List.drop 84 mC100) (L := [.ref a0, w1]) (rest := []) (μ := μ48) rfl (by decide) (by decide) ⟨rfl, rfl⟩ rfl h49 (Nat.le_of_ble_eq_true rfl) (Nat.le_of_ble_eq_true rfl) (t19 h51) ?_
  obtain rfl := Option.some.inj hr
  rw [show r = _ from hC]
  exact gIret rfl
def s100 (μ : mM) (a0 : Nat) : Option (Int32 × mM) :=
  if (mS μ a0).1 = 8 then if (mS μ (mP μ a0 0)).1 = 3 then (s61 μ (mP μ a0 0)).bind fun q3 => if q3.1 = (-10) then ((mLoop (s100L9 a0) 1000 (0, q3.2)).bind fun o17 => Sum.elim (fun x18 => (mLoop (s100L29 a0) 1000 (1, x18)).bind fun o27 => Sum.elim (fun x28 => (mLoop (s100L43 a0) 1000 (1, x28)).bind fun o42 => Sum.elim (fun x43 => s100_77 a0 x43) (fun y44 => some y44) o42) (fun y29 => some y29) o27) (fun y19 => some y19) o17) else (some ((-8), q3.2)) else none else none
set_option maxRecDepth 20000 in
theorem t100 {μ : mM} {a0 : Nat} {o : (Int32 × mM)} (hr : s100 μ a0 = some o) : mEv mG 100 [.ref a0] μ (some (.int o.1)) (o.2) := by
  obtain ⟨r, hC⟩ : ∃ r : Option Value × mM, r = (some (.int o.1), o.2) := ⟨_, rfl⟩
  show mGo mG (100, List.drop 0 mC100, [.ref a0, .retAddr 0], [], μ) (some (.int o.1), o.2)
  rw [← hC]
  unfold s100 at hr
  refine mGo.steps 1 (c' := (100, List.drop 1 mC100, [.ref a0, .retAddr 0], [.ref a0], μ)) rfl ?_
  obtain ⟨h1, hr⟩ := mIf hr
  refine gGet (is := List.drop 2 mC100) (v := .ref (mP μ a0 0)) h1 rfl ?_
  obtain ⟨h2, hr⟩ := mIf hr
  obtain ⟨q3, h4, hr⟩ := mBi hr
  refine gCall (z := 61) (n := 0) (f := 0) (kind := 1) (a := (mP μ a0 0)) (As := []) (y := 100) (is := List.drop 3 mC100) (L := [.ref a0, .retAddr 0]) (rest := []) (μ := μ) rfl (by decide) (by decide) ⟨rfl, rfl⟩ rfl h2 (Nat.le_of_ble_eq_true rfl) (Nat.le_of_ble_eq_true rfl) (t61 h4) ?_
  refine mGo.steps 1 (c' := (100, List.drop 4 mC100, [.ref a0, .retAddr 0], [.int (-10), .int q3.1], q3.2)) rfl ?_
  rcases mIte hr with ⟨h52, hr⟩ | ⟨h52, hr⟩
  · refine gBrT (p := q3.1 = (-10)) (y := 100) (is := List.drop 5 mC100) (L := [.ref a0, .retAddr 0]) (st := []) (μ := q3.2) (t := 15) rfl h52 ?_
    refine mGo.steps 2 (c' := (100, List.drop 9 mC100, [.ref a0, .int 0], [], q3.2)) rfl ?_
    obtain ⟨o17, h20, hr⟩ := mBi hr
    refine t100L9l a0 1000 (0, q3.2) o17 h20 ?_ 
    cases o17 with
    | inl x18 =>
      show ∀ (w1 : Value) (hw1 : mNotL w1 = true), mGo mG (100, List.drop 27 mC100, [.ref a0, w1], [], x18) r
      intro w1 hw1
      replace hr : (_) = some _ := hr
      refine mGo.steps 2 (c' := (100, List.drop 29 mC100, [.ref a0, .int 1], [], x18)) rfl ?_
      obtain ⟨o27, h30, hr⟩ := mBi hr
      refine t100L29l a0 1000 (1, x18) o27 h30 ?_ 
      cases o27 with
      | inl x28 =>
        show ∀ (w1 : Value) (hw1 : mNotL w1 = true), mGo mG (100, List.drop 41 mC100, [.ref a0, w1], [], x28) r
        intro w1 hw1
        replace hr : (_) = some _ := hr
        refine mGo.steps 2 (c' := (100, List.drop 43 mC100, [.ref a0, .int 1], [], x28)) rfl ?_
        obtain ⟨o42, h45, hr⟩ := mBi hr
        refine t100L43l a0 1000 (1, x28) o42 h45 ?_ 
        cases o42 with
        | inl x43 =>
          show ∀ (w1 : Value) (hw1 : mNotL w1 = true), mGo mG (100, List.drop 77 mC100, [.ref a0, w1], [], x43) r
          intro w1 hw1
          replace hr : (_) = some _ := hr
          exact t100_77 a0 x43 w1 hw1 hr hC
        | inr y44 =>
          obtain rfl := Option.some.inj hr
          exact hC
      | inr y29 =>
        obtain rfl := Option.some.inj hr
        exact hC
    | inr y19 =>
      obtain rfl := Option.some.inj hr
      exact hC
  · refine gBrF (p := q3.1 = (-10)) (y := 100) (is := List.drop 5 mC100) (L := [.ref a0, .retAddr 0]) (st := []) (μ := q3.2) (t := 15) rfl h52 ?_
    refine mGo.steps 1 (c' := (100, List.drop 6 mC100, [.ref a0, .retAddr 0], [.int (-8)], q3.2)) rfl ?_
    obtain rfl := Option.some.inj hr
    rw [show r = _ from hC]
    exact gIret rfl

/-! 101: TunnelFabric.plug(IIII)I -/
def s101_16 (a0 : Nat) (a1 : Int32) (a2 : Int32) (a3 : Int32) (a4 : Int32) (μ : mM) : Option (Int32 × mM) :=
  some ((-1), μ)
set_option maxRecDepth 20000 in
theorem t101_16 (a0 : Nat) (a1 : Int32) (a2 : Int32) (a3 : Int32) (a4 : Int32) (μ : mM) (w0 : Value) (hw0 : mNotL w0 = true) (w1 : Value) (hw1 : mNotL w1 = true) (w2 : Value) (hw2 : mNotL w2 = true) (w3 : Value) (hw3 : mNotL w3 = true) (w4 : Value) (hw4 : mNotL w4 = true) (w5 : Value) (hw5 : mNotL w5 = true) {o : (Int32 × mM)} {r : Option Value × mM} (hr : s101_16 a0 a1 a2 a3 a4 μ = some o) (hC : r = (some (.int o.1), o.2)) : mGo mG (101, List.drop 16 mC101, [w0, w1, w2, w3, w4, w5], [], μ) r := by
  unfold s101_16 at hr
  refine mGo.steps 1 (c' := (101, List.drop 17 mC101, [w0, w1, w2, w3, w4, w5], [.int (-1)], μ)) rfl ?_
  obtain rfl := Option.some.inj hr
  rw [show r = _ from hC]
  exact gIret rfl
def s101 (μ : mM) (a0 : Nat) (a1 : Int32) (a2 : Int32) (a3 : Int32) (a4 : Int32) : Option (Int32 × mM) :=
  if (mS μ a0).1 = 8 then if (mS μ (mP μ a0 1)).1 = 1 then (s16 μ (mP μ a0 1) a1 a2).bind fun q3 => if q3 = 0 then (s101_16 a0 a1 a2 a3 a4 μ) else ((s131 μ a3 0 3).bind fun q5 => if q5 = 0 then (s101_16 a0 a1 a2 a3 a4 μ) else ((s131 μ a4 1 3).bind fun q7 => if ¬ q7 = 0 then ((s23 μ (mP μ a0 1) a1 a2).bind fun q9 => if q9 = (-1) then ((s18 μ (mP μ a0 1) a1).bind fun q11 => if (mS μ q11).1 = 4 then if (mI μ q11 5) < 4 then ((s22 μ (mP μ a0 1)).bind fun q14 => if ¬ q14 = (-1) then ((s25 μ (mP μ a0 1) q14 a1 a2 a3 a4).bind fun q16 => some (q14, q16)) else (some ((-5), μ))) else (some ((-4), μ)) else none) else (some ((-3), μ))) else (s101_16 a0 a1 a2 a3 a4 μ))) else none else none
set_option maxRecDepth 20000 in
theorem t101 {μ : mM} {a0 : Nat} {a1 : Int32} {a2 : Int32} {a3 : Int32} {a4 : Int32} {o : (Int32 × mM)} (hr : s101 μ a0 a1 a2 a3 a4 = some o) : mEv mG 101 [.ref a0, .int a1, .int a2, .int a3, .int a4] μ (some (.int o.1)) (o.2) := by
  obtain ⟨r, hC⟩ : ∃ r : Option Value × mM, r = (some (.int o.1), o.2) := ⟨_, rfl⟩
  show mGo mG (101, List.drop 0 mC101, [.ref a0, .int a1, .int a2, .int a3, .int a4, .retAddr 0], [], μ) (some (.int o.1), o.2)
  rw [← hC]
  unfold s101 at hr
  refine mGo.steps 1 (c' := (101, List.drop 1 mC101, [.ref a0, .int a1, .int a2, .int a3, .int a4, .retAddr 0], [.ref a0], μ)) rfl ?_
  obtain ⟨h1, hr⟩ := mIf hr
  refine gGet (is := List.drop 2 mC101) (v := .ref (mP μ a0 1)) h1 rfl ?_
  refine mGo.steps 2 (c' := (101, List.drop 4 mC101, [.ref a0, .int a1, .int a2, .int a3, .int a4, .retAddr 0], [.int a2, .int a1, .ref (mP μ a0 1)], μ)) rfl ?_
  obtain ⟨h2, hr⟩ := mIf hr
  obtain ⟨q3, h4, hr⟩ := mBi hr
  refine gCall (z := 16) (n := 2) (f := 0) (kind := 1) (a := (mP μ a0 1)) (As := [.int a1, .int a2]) (y := 101) (is := List.drop 5 mC101) (L := [.ref a0, .int a1, .int a2, .int a3, .int a4, .retAddr 0]) (rest := []) (μ := μ) rfl (by decide) (by decide) ⟨rfl, rfl⟩ rfl h2 (Nat.le_of_ble_eq_true rfl) (Nat.le_of_ble_eq_true rfl) (t16 h4) ?_
  rcases mIte hr with ⟨h23, hr⟩ | ⟨h23, hr⟩
  · refine gBrT (p := q3 = 0) (y := 101) (is := List.drop 6 mC101) (L := [.ref a0, .int a1, .int a2, .int a3, .int a4, .retAddr 0]) (st := []) (μ := μ) (t := 31) rfl h23 ?_
    exact t101_16 a0 a1 a2 a3 a4 μ (.ref a0) rfl (.int a1) rfl (.int a2) rfl (.int a3) rfl (.int a4) rfl (.retAddr 0) rfl hr hC
  · refine gBrF (p := q3 = 0) (y := 101) (is := List.drop 6 mC101) (L := [.ref a0, .int a1, .int a2, .int a3, .int a4, .retAddr 0]) (st := []) (μ := μ) (t := 31) rfl h23 ?_
    refine mGo.steps 3 (c' := (101, List.drop 9 mC101, [.ref a0, .int a1, .int a2, .int a3, .int a4, .retAddr 0], [.int 3, .int 0, .int a3], μ)) rfl ?_
    obtain ⟨q5, h6, hr⟩ := mBi hr
    refine mGo.call (z := 131) (as := [.int a3, .int 0, .int 3]) (y := 101) (is := List.drop 10 mC101) (L := [.ref a0, .int a1, .int a2, .int a3, .int a4, .retAddr 0]) (st := []) (μ := μ) rfl (t131 h6) ?_
    rcases mIte hr with ⟨h22, hr⟩ | ⟨h22, hr⟩
    · refine gBrT (p := q5 = 0) (y := 101) (is := List.drop 11 mC101) (L := [.ref a0, .int a1, .int a2, .int a3, .int a4, .retAddr 0]) (st := []) (μ := μ) (t := 31) rfl h22 ?_
      exact t101_16 a0 a1 a2 a3 a4 μ (.ref a0) rfl (.int a1) rfl (.int a2) rfl (.int a3) rfl (.int a4) rfl (.retAddr 0) rfl hr hC
    · refine gBrF (p := q5 = 0) (y := 101) (is := List.drop 11 mC101) (L := [.ref a0, .int a1, .int a2, .int a3, .int a4, .retAddr 0]) (st := []) (μ := μ) (t := 31) rfl h22 ?_
      refine mGo.steps 3 (c' := (101, List.drop 14 mC101, [.ref a0, .int a1, .int a2, .int a3, .int a4, .retAddr 0], [.int 3, .int 1, .int a4], μ)) rfl ?_
      obtain ⟨q7, h8, hr⟩ := mBi hr
      refine mGo.call (z := 131) (as := [.int a4, .int 1, .int 3]) (y := 101) (is := List.drop 15 mC101) (L := [.ref a0, .int a1, .int a2, .int a3, .int a4, .retAddr 0]) (st := []) (μ := μ) rfl (t131 h8) ?_
      rcases mIte hr with ⟨h21, hr⟩ | ⟨h21, hr⟩
      · refine gBrT (p := ¬ q7 = 0) (y := 101) (is := List.drop 16 mC101) (L := [.ref a0, .int a1, .int a2, .int a3, .int a4, .retAddr 0]) (st := []) (μ := μ) (t := 33) rfl h21 ?_
        refine mGo.steps 1 (c' := (101, List.drop 19 mC101, [.ref a0, .int a1, .int a2, .int a3, .int a4, .retAddr 0], [.ref a0], μ)) rfl ?_
        refine gGet (is := List.drop 20 mC101) (v := .ref (mP μ a0 1)) h1 rfl ?_
        refine mGo.steps 2 (c' := (101, List.drop 22 mC101, [.ref a0, .int a1, .int a2, .int a3, .int a4, .retAddr 0], [.int a2, .int a1, .ref (mP μ a0 1)], μ)) rfl ?_
        obtain ⟨q9, h10, hr⟩ := mBi hr
        refine gCall (z := 23) (n := 2) (f := 0) (kind := 1) (a := (mP μ a0 1)) (As := [.int a1, .int a2]) (y := 101) (is := List.drop 23 mC101) (L := [.ref a0, .int a1, .int a2, .int a3, .int a4, .retAddr 0]) (rest := []) (μ := μ) rfl (by decide) (by decide) ⟨rfl, rfl⟩ rfl h2 (Nat.le_of_ble_eq_true rfl) (Nat.le_of_ble_eq_true rfl) (t23 h10) ?_
        refine mGo.steps 1 (c' := (101, List.drop 24 mC101, [.ref a0, .int a1, .int a2, .int a3, .int a4, .retAddr 0], [.int (-1), .int q9], μ)) rfl ?_
        rcases mIte hr with ⟨h20, hr⟩ | ⟨h20, hr⟩
        · refine gBrT (p := q9 = (-1)) (y := 101) (is := List.drop 25 mC101) (L := [.ref a0, .int a1, .int a2, .int a3, .int a4, .retAddr 0]) (st := []) (μ := μ) (t := 49) rfl h20 ?_
          refine mGo.steps 1 (c' := (101, List.drop 28 mC101, [.ref a0, .int a1, .int a2, .int a3, .int a4, .retAddr 0], [.ref a0], μ)) rfl ?_
          refine gGet (is := List.drop 29 mC101) (v := .ref (mP μ a0 1)) h1 rfl ?_
          refine mGo.steps 1 (c' := (101, List.drop 30 mC101, [.ref a0, .int a1, .int a2, .int a3, .int a4, .retAddr 0], [.int a1, .ref (mP μ a0 1)], μ)) rfl ?_
          obtain ⟨q11, h12, hr⟩ := mBi hr
          refine gCall (z := 18) (n := 1) (f := 0) (kind := 1) (a := (mP μ a0 1)) (As := [.int a1]) (y := 101) (is := List.drop 31 mC101) (L := [.ref a0, .int a1, .int a2, .int a3, .int a4, .retAddr 0]) (rest := []) (μ := μ) rfl (by decide) (by decide) ⟨rfl, rfl⟩ rfl h2 (Nat.le_of_ble_eq_true rfl) (Nat.le_of_ble_eq_true rfl) (t18 h12) ?_
          obtain ⟨h13, hr⟩ := mIf hr
          refine gGet (is := List.drop 32 mC101) (v := .int (mI μ q11 5)) h13 rfl ?_
          refine mGo.steps 1 (c' := (101, List.drop 33 mC101, [.ref a0, .int a1, .int a2, .int a3, .int a4, .retAddr 0], [.int 4, .int (mI μ q11 5)], μ)) rfl ?_
          rcases mIte hr with ⟨h19, hr⟩ | ⟨h19, hr⟩
          · refine gBrT (p := (mI μ q11 5) < 4) (y := 101) (is := List.drop 34 mC101) (L := [.ref a0, .int a1, .int a2, .int a3, .int a4, .retAddr 0]) (st := []) (μ := μ) (t := 67) rfl h19 ?_
            refine mGo.steps 1 (c' := (101, List.drop 37 mC101, [.ref a0, .int a1, .int a2, .int a3, .int a4, .retAddr 0], [.ref a0], μ)) rfl ?_
            refine gGet (is := List.drop 38 mC101) (v := .ref (mP μ a0 1)) h1 rfl ?_
            obtain ⟨q14, h15, hr⟩ := mBi hr
            refine gCall (z := 22) (n := 0) (f := 0) (kind := 1) (a := (mP μ a0 1)) (As := []) (y := 101) (is := List.drop 39 mC101) (L := [.ref a0, .int a1, .int a2, .int a3, .int a4, .retAddr 0]) (rest := []) (μ := μ) rfl (by decide) (by decide) ⟨rfl, rfl⟩ rfl h2 (Nat.le_of_ble_eq_true rfl) (Nat.le_of_ble_eq_true rfl) (t22 h15) ?_
            refine mGo.steps 3 (c' := (101, List.drop 42 mC101, [.ref a0, .int a1, .int a2, .int a3, .int a4, .int q14], [.int (-1), .int q14], μ)) rfl ?_
            rcases mIte hr with ⟨h18, hr⟩ | ⟨h18, hr⟩
            · refine gBrT (p := ¬ q14 = (-1)) (y := 101) (is := List.drop 43 mC101) (L := [.ref a0, .int a1, .int a2, .int a3, .int a4, .int q14]) (st := []) (μ := μ) (t := 85) rfl h18 ?_
              refine mGo.steps 1 (c' := (101, List.drop 46 mC101, [.ref a0, .int a1, .int a2, .int a3, .int a4, .int q14], [.ref a0], μ)) rfl ?_
              refine gGet (is := List.drop 47 mC101) (v := .ref (mP μ a0 1)) h1 rfl ?_
              refine mGo.steps 5 (c' := (101, List.drop 52 mC101, [.ref a0, .int a1, .int a2, .int a3, .int a4, .int q14], [.int a4, .int a3, .int a2, .int a1, .int q14, .ref (mP μ a0 1)], μ)) rfl ?_
              obtain ⟨q16, h17, hr⟩ := mBi hr
              refine gCall (z := 25) (n := 5) (f := 0) (kind := 1) (a := (mP μ a0 1)) (As := [.int q14, .int a1, .int a2, .int a3, .int a4]) (y := 101) (is := List.drop 53 mC101) (L := [.ref a0, .int a1, .int a2, .int a3, .int a4, .int q14]) (rest := []) (μ := μ) rfl (by decide) (by decide) ⟨rfl, rfl⟩ rfl h2 (Nat.le_of_ble_eq_true rfl) (Nat.le_of_ble_eq_true rfl) (t25 h17) ?_
              refine mGo.steps 1 (c' := (101, List.drop 54 mC101, [.ref a0, .int a1, .int a2, .int a3, .int a4, .int q14], [.int q14], q16)) rfl ?_
              obtain rfl := Option.some.inj hr
              rw [show r = _ from hC]
              exact gIret rfl
            · refine gBrF (p := ¬ q14 = (-1)) (y := 101) (is := List.drop 43 mC101) (L := [.ref a0, .int a1, .int a2, .int a3, .int a4, .int q14]) (st := []) (μ := μ) (t := 85) rfl h18 ?_
              refine mGo.steps 1 (c' := (101, List.drop 44 mC101, [.ref a0, .int a1, .int a2, .int a3, .int a4, .int q14], [.int (-5)], μ)) rfl ?_
              obtain rfl := Option.some.inj hr
              rw [show r = _ from hC]
              exact gIret rfl
          · refine gBrF (p := (mI μ q11 5) < 4) (y := 101) (is := List.drop 34 mC101) (L := [.ref a0, .int a1, .int a2, .int a3, .int a4, .retAddr 0]) (st := []) (μ := μ) (t := 67) rfl h19 ?_
            refine mGo.steps 1 (c' := (101, List.drop 35 mC101, [.ref a0, .int a1, .int a2, .int a3, .int a4, .retAddr 0], [.int (-4)], μ)) rfl ?_
            obtain rfl := Option.some.inj hr
            rw [show r = _ from hC]
            exact gIret rfl
        · refine gBrF (p := q9 = (-1)) (y := 101) (is := List.drop 25 mC101) (L := [.ref a0, .int a1, .int a2, .int a3, .int a4, .retAddr 0]) (st := []) (μ := μ) (t := 49) rfl h20 ?_
          refine mGo.steps 1 (c' := (101, List.drop 26 mC101, [.ref a0, .int a1, .int a2, .int a3, .int a4, .retAddr 0], [.int (-3)], μ)) rfl ?_
          obtain rfl := Option.some.inj hr
          rw [show r = _ from hC]
          exact gIret rfl
      · refine gBrF (p := ¬ q7 = 0) (y := 101) (is := List.drop 16 mC101) (L := [.ref a0, .int a1, .int a2, .int a3, .int a4, .retAddr 0]) (st := []) (μ := μ) (t := 33) rfl h21 ?_
        exact t101_16 a0 a1 a2 a3 a4 μ (.ref a0) rfl (.int a1) rfl (.int a2) rfl (.int a3) rfl (.int a4) rfl (.retAddr 0) rfl hr hC

/-! 102: TunnelFabric.unplug(I)I -/
def s102L9_25 (p0 : Nat) (p1 : Int32) (μ : mM) (v2 : Int32) : Option ((Int32 × mM) ⊕ ((mM) ⊕ (Int32 × mM))) :=
  some (.inl (v2 + 1, μ))
set_option maxRecDepth 20000 in
theorem t102L9_25 (p0 : Nat) (p1 : Int32) (μ : mM) (v2 : Int32) {o : ((Int32 × mM) ⊕ ((mM) ⊕ (Int32 × mM)))} {r : Option Value × mM} (hr : s102L9_25 p0 p1 μ v2 = some o) (hC : Sum.elim (fun s' : Int32 × mM => mGo mG (102, List.drop 9 mC102, [.ref p0, .int p1, .int s'.1], [], s'.2) r) (Sum.elim (fun x : mM => ∀ (w2 : Value) (hw2 : mNotL w2 = true), mGo mG (102, List.drop 27 mC102, [.ref p0, .int p1, w2], [], x) r) (fun y : (Int32 × mM) => r = (some (.int y.1), y.2))) o) : mGo mG (102, List.drop 25 mC102, [.ref p0, .int p1, .int v2], [], μ) r := by
  unfold s102L9_25 at hr
  refine mGo.steps 2 (c' := (102, List.drop 9 mC102, [.ref p0, .int p1, .int (v2 + 1)], [], μ)) rfl ?_
  obtain rfl := Option.some.inj hr
  exact hC
def s102L9 (p0 : Nat) (p1 : Int32) (s : Int32 × mM) : Option ((Int32 × mM) ⊕ ((mM) ⊕ (Int32 × mM))) :=
  if 10 ≤ s.1 then (some (.inr (.inl s.2))) else (if (mS s.2 p0).1 = 8 then if (mS s.2 (mP s.2 p0 1)).1 = 1 then if (mS s.2 (mP s.2 (mP s.2 p0 1) 1)).1 = 20 + 6 ∧ mInb s.1 (mS s.2 (mP s.2 (mP s.2 p0 1) 1)).2 then if (mS s.2 (mP s.2 (mP s.2 (mP s.2 p0 1) 1) (Int32.toNatClampNeg s.1))).1 = 6 then (s79 s.2 (mP s.2 (mP s.2 (mP s.2 p0 1) 1) (Int32.toNatClampNeg s.1)) p1).bind fun q9 => if q9 = 0 then (s102L9_25 p0 p1 s.2 s.1) else ((s50 s.2 (mP s.2 p0 1) s.1).bind fun q11 => s102L9_25 p0 p1 q11.2 s.1) else none else none else none else none)
set_option maxRecDepth 20000 in
theorem t102L9 (p0 : Nat) (p1 : Int32) {r : Option Value × mM} (s : Int32 × mM) (o : ((Int32 × mM) ⊕ ((mM) ⊕ (Int32 × mM)))) (hr : s102L9 p0 p1 s = some o) (hC : Sum.elim (fun s' : Int32 × mM => mGo mG (102, List.drop 9 mC102, [.ref p0, .int p1, .int s'.1], [], s'.2) r) (Sum.elim (fun x : mM => ∀ (w2 : Value) (hw2 : mNotL w2 = true), mGo mG (102, List.drop 27 mC102, [.ref p0, .int p1, w2], [], x) r) (fun y : (Int32 × mM) => r = (some (.int y.1), y.2))) o) : mGo mG (102, List.drop 9 mC102, [.ref p0, .int p1, .int s.1], [], s.2) r := by
  unfold s102L9 at hr
  refine mGo.steps 2 (c' := (102, List.drop 11 mC102, [.ref p0, .int p1, .int s.1], [.int 10, .int s.1], s.2)) rfl ?_
  rcases mIte hr with ⟨h14, hr⟩ | ⟨h14, hr⟩
  · refine gBrT (p := 10 ≤ s.1) (y := 102) (is := List.drop 12 mC102) (L := [.ref p0, .int p1, .int s.1]) (st := []) (μ := s.2) (t := 52) rfl h14 ?_
    obtain rfl := Option.some.inj hr
    exact hC (.int s.1) rfl
  · refine gBrF (p := 10 ≤ s.1) (y := 102) (is := List.drop 12 mC102) (L := [.ref p0, .int p1, .int s.1]) (st := []) (μ := s.2) (t := 52) rfl h14 ?_
    refine mGo.steps 1 (c' := (102, List.drop 13 mC102, [.ref p0, .int p1, .int s.1], [.ref p0], s.2)) rfl ?_
    obtain ⟨h5, hr⟩ := mIf hr
    refine gGet (is := List.drop 14 mC102) (v := .ref (mP s.2 p0 1)) h5 rfl ?_
    obtain ⟨h6, hr⟩ := mIf hr
    refine gGet (is := List.drop 15 mC102) (v := .ref (mP s.2 (mP s.2 p0 1) 1)) h6 rfl ?_
    refine mGo.steps 1 (c' := (102, List.drop 16 mC102, [.ref p0, .int p1, .int s.1], [.int s.1, .ref (mP s.2 (mP s.2 p0 1) 1)], s.2)) rfl ?_
    obtain ⟨h7, hr⟩ := mIf hr
    refine gAald (is := List.drop 17 mC102) h7 ?_
    refine mGo.steps 1 (c' := (102, List.drop 18 mC102, [.ref p0, .int p1, .int s.1], [.int p1, .ref (mP s.2 (mP s.2 (mP s.2 p0 1) 1) (Int32.toNatClampNeg s.1))], s.2)) rfl ?_
    obtain ⟨h8, hr⟩ := mIf hr
    obtain ⟨q9, h10, hr⟩ := mBi hr
    refine gCall (z := 79) (n := 1) (f := 0) (kind := 1) (a := (mP s.2 (mP s.2 (mP s.2 p0 1) 1) (Int32.toNatClampNeg s.1))) (As := [.int p1]) (y := 102) (is := List.drop 19 mC102) (L := [.ref p0, .int p1, .int s.1]) (rest := []) (μ := s.2) rfl (by decide) (by decide) ⟨rfl, rfl⟩ rfl h8 (Nat.le_of_ble_eq_true rfl) (Nat.le_of_ble_eq_true rfl) (t79 h10) ?_
    rcases mIte hr with ⟨h13, hr⟩ | ⟨h13, hr⟩
    · refine gBrT (p := q9 = 0) (y := 102) (is := List.drop 20 mC102) (L := [.ref p0, .int p1, .int s.1]) (st := []) (μ := s.2) (t := 46) rfl h13 ?_
      exact t102L9_25 p0 p1 s.2 s.1 hr hC
    · refine gBrF (p := q9 = 0) (y := 102) (is := List.drop 20 mC102) (L := [.ref p0, .int p1, .int s.1]) (st := []) (μ := s.2) (t := 46) rfl h13 ?_
      refine mGo.steps 1 (c' := (102, List.drop 21 mC102, [.ref p0, .int p1, .int s.1], [.ref p0], s.2)) rfl ?_
      refine gGet (is := List.drop 22 mC102) (v := .ref (mP s.2 p0 1)) h5 rfl ?_
      refine mGo.steps 1 (c' := (102, List.drop 23 mC102, [.ref p0, .int p1, .int s.1], [.int s.1, .ref (mP s.2 p0 1)], s.2)) rfl ?_
      obtain ⟨q11, h12, hr⟩ := mBi hr
      refine gCall (z := 50) (n := 1) (f := 0) (kind := 1) (a := (mP s.2 p0 1)) (As := [.int s.1]) (y := 102) (is := List.drop 24 mC102) (L := [.ref p0, .int p1, .int s.1]) (rest := []) (μ := s.2) rfl (by decide) (by decide) ⟨rfl, rfl⟩ rfl h6 (Nat.le_of_ble_eq_true rfl) (Nat.le_of_ble_eq_true rfl) (t50 h12) ?_
      refine mGo.steps 1 (c' := (102, List.drop 25 mC102, [.ref p0, .int p1, .int s.1], [], q11.2)) rfl ?_
      exact t102L9_25 p0 p1 q11.2 s.1 hr hC
theorem t102L9l (p0 : Nat) (p1 : Int32) {r : Option Value × mM} (n : Nat) (s : Int32 × mM) (o : (mM) ⊕ (Int32 × mM)) (hr : mLoop (s102L9 p0 p1) n s = some o) (hC : Sum.elim (fun x : mM => ∀ (w2 : Value) (hw2 : mNotL w2 = true), mGo mG (102, List.drop 27 mC102, [.ref p0, .int p1, w2], [], x) r) (fun y : (Int32 × mM) => r = (some (.int y.1), y.2)) o) : mGo mG (102, List.drop 9 mC102, [.ref p0, .int p1, .int s.1], [], s.2) r :=
  mLoop_go (Hd := (fun s' : Int32 × mM => mGo mG (102, List.drop 9 mC102, [.ref p0, .int p1, .int s'.1], [], s'.2) r)) (fun s o hb hC => t102L9 p0 p1 s o hb hC) n s o hr hC
def s102 (μ : mM) (a0 : Nat) (a1 : Int32) : Option (Int32 × mM) :=
  if (mS μ a0).1 = 8 then if (mS μ (mP μ a0 1)).1 = 1 then (s15 μ (mP μ a0 1) a1).bind fun q3 => if ¬ q3 = 0 then ((mLoop (s102L9 a0 a1) 1000 (0, μ)).bind fun o15 => Sum.elim (fun x16 => if (mS x16 a0).1 = 8 then if (mS x16 (mP x16 a0 1)).1 = 1 then (s26 x16 (mP x16 a0 1) a1).bind fun q21 => if (mS q21.2 a0).1 = 8 then if (mS q21.2 (mP q21.2 a0 1)).1 = 1 then (s34 q21.2 (mP q21.2 a0 1)).bind fun q25 => some (q21.1, q25) else none else none else none else none) (fun y17 => some y17) o15) else (some ((-1), μ)) else none else none
set_option maxRecDepth 20000 in
theorem t102 {μ : mM} {a0 : Nat} {a1 : Int32} {o : (Int32 × mM)} (hr : s102 μ a0 a1 = some o) : mEv mG 102 [.ref a0, .int a1] μ (some (.int o.1)) (o.2) := by
  obtain ⟨r, hC⟩ : ∃ r : Option Value × mM, r = (some (.int o.1), o.2) := ⟨_, rfl⟩
  show mGo mG (102, List.drop 0 mC102, [.ref a0, .int a1, .retAddr 0], [], μ) (some (.int o.1), o.2)
  rw [← hC]
  unfold s102 at hr
  refine mGo.steps 1 (c' := (102, List.drop 1 mC102, [.ref a0, .int a1, .retAddr 0], [.ref a0], μ)) rfl ?_
  obtain ⟨h1, hr⟩ := mIf hr
  refine gGet (is := List.drop 2 mC102) (v := .ref (mP μ a0 1)) h1 rfl ?_
  refine mGo.steps 1 (c' := (102, List.drop 3 mC102, [.ref a0, .int a1, .retAddr 0], [.int a1, .ref (mP μ a0 1)], μ)) rfl ?_
  obtain ⟨h2, hr⟩ := mIf hr
  obtain ⟨q3, h4, hr⟩ := mBi hr
  refine gCall (z := 15) (n := 1) (f := 0) (kind := 1) (a := (mP μ a0 1)) (As := [.int a1]) (y := 102) (is := List.drop 4 mC102) (L := [.ref a0, .int a1, .retAddr 0]) (rest := []) (μ := μ) rfl (by decide) (by decide) ⟨rfl, rfl⟩ rfl h2 (Nat.le_of_ble_eq_true rfl) (Nat.le_of_ble_eq_true rfl) (t15 h4) ?_
  rcases mIte hr with ⟨h27, hr⟩ | ⟨h27, hr⟩
  · refine gBrT (p := ¬ q3 = 0) (y := 102) (is := List.drop 5 mC102) (L := [.ref a0, .int a1, .retAddr 0]) (st := []) (μ := μ) (t := 13) rfl h27 ?_
    refine mGo.steps 2 (c' := (102, List.drop 9 mC102, [.ref a0, .int a1, .int 0], [], μ)) rfl ?_
    obtain ⟨o15, h18, hr⟩ := mBi hr
    refine t102L9l a0 a1 1000 (0, μ) o15 h18 ?_ 
    cases o15 with
    | inl x16 =>
      show ∀ (w2 : Value) (hw2 : mNotL w2 = true), mGo mG (102, List.drop 27 mC102, [.ref a0, .int a1, w2], [], x16) r
      intro w2 hw2
      replace hr : (_) = some _ := hr
      refine mGo.steps 1 (c' := (102, List.drop 28 mC102, [.ref a0, .int a1, w2], [.ref a0], x16)) rfl ?_
      obtain ⟨h19, hr⟩ := mIf hr
      refine gGet (is := List.drop 29 mC102) (v := .ref (mP x16 a0 1)) h19 rfl ?_
      refine mGo.steps 1 (c' := (102, List.drop 30 mC102, [.ref a0, .int a1, w2], [.int a1, .ref (mP x16 a0 1)], x16)) rfl ?_
      obtain ⟨h20, hr⟩ := mIf hr
      obtain ⟨q21, h22, hr⟩ := mBi hr
      refine gCall (z := 26) (n := 1) (f := 0) (kind := 1) (a := (mP x16 a0 1)) (As := [.int a1]) (y := 102) (is := List.drop 31 mC102) (L := [.ref a0, .int a1, w2]) (rest := []) (μ := x16) rfl (by decide) (by decide) ⟨rfl, rfl⟩ rfl h20 (Nat.le_of_ble_eq_true rfl) (Nat.le_of_ble_eq_true rfl) (t26 h22) ?_
      refine mGo.steps 2 (c' := (102, List.drop 33 mC102, [.ref a0, .int a1, .int q21.1], [.ref a0], q21.2)) rfl ?_
      obtain ⟨h23, hr⟩ := mIf hr
      refine gGet (is := List.drop 34 mC102) (v := .ref (mP q21.2 a0 1)) h23 rfl ?_
      obtain ⟨h24, hr⟩ := mIf hr
      obtain ⟨q25, h26, hr⟩ := mBi hr
      refine gCall (z := 34) (n := 0) (f := 0) (kind := 1) (a := (mP q21.2 a0 1)) (As := []) (y := 102) (is := List.drop 35 mC102) (L := [.ref a0, .int a1, .int q21.1]) (rest := []) (μ := q21.2) rfl (by decide) (by decide) ⟨rfl, rfl⟩ rfl h24 (Nat.le_of_ble_eq_true rfl) (Nat.le_of_ble_eq_true rfl) (t34 h26) ?_
      refine mGo.steps 1 (c' := (102, List.drop 36 mC102, [.ref a0, .int a1, .int q21.1], [.int q21.1], q25)) rfl ?_
      obtain rfl := Option.some.inj hr
      rw [show r = _ from hC]
      exact gIret rfl
    | inr y17 =>
      obtain rfl := Option.some.inj hr
      exact hC
  · refine gBrF (p := ¬ q3 = 0) (y := 102) (is := List.drop 5 mC102) (L := [.ref a0, .int a1, .retAddr 0]) (st := []) (μ := μ) (t := 13) rfl h27 ?_
    refine mGo.steps 1 (c' := (102, List.drop 6 mC102, [.ref a0, .int a1, .retAddr 0], [.int (-1)], μ)) rfl ?_
    obtain rfl := Option.some.inj hr
    rw [show r = _ from hC]
    exact gIret rfl

/-! 103: TunnelFabric.widen(IZ)I -/
def s103_37 (a0 : Nat) (a1 : Int32) (a2 : Int32) (μ : mM) (v3 : Nat) (t0 : Int32) : Option (Int32 × mM) :=
  if (mS μ v3).1 = 2 then if a2 = 0 ∨ a2 = 1 then (some (mUI μ v3 1 a2)).bind fun μ12 => if (mS μ12 a0).1 = 8 then if (mS μ12 (mP μ12 a0 1)).1 = 1 then (s34 μ12 (mP μ12 a0 1)).bind fun q15 => some (t0, q15) else none else none else none else none
set_option maxRecDepth 20000 in
theorem t103_37 (a0 : Nat) (a1 : Int32) (a2 : Int32) (μ : mM) (v3 : Nat) (t0 : Int32) (w1 : Value) (hw1 : mNotL w1 = true) (w4 : Value) (hw4 : mNotL w4 = true) {o : (Int32 × mM)} {r : Option Value × mM} (hr : s103_37 a0 a1 a2 μ v3 t0 = some o) (hC : r = (some (.int o.1), o.2)) : mGo mG (103, List.drop 37 mC103, [.ref a0, w1, .int a2, .ref v3, w4], [.int t0], μ) r := by
  unfold s103_37 at hr
  refine mGo.steps 3 (c' := (103, List.drop 40 mC103, [.ref a0, w1, .int a2, .ref v3, .int t0], [.int a2, .ref v3], μ)) rfl ?_
  obtain ⟨h10, hr⟩ := mIf hr
  obtain ⟨h11, hr⟩ := mIf hr
  replace hr := mBs hr
  refine gPut (is := List.drop 41 mC103) (μ' := mUI μ v3 1 a2) h10 (gZ h11) ?_
  let μ12 : mM := mUI μ v3 1 a2
  refine mGo.steps 1 (c' := (103, List.drop 42 mC103, [.ref a0, w1, .int a2, .ref v3, .int t0], [.ref a0], μ12)) rfl ?_
  obtain ⟨h13, hr⟩ := mIf hr
  refine gGet (is := List.drop 43 mC103) (v := .ref (mP μ12 a0 1)) h13 rfl ?_
  obtain ⟨h14, hr⟩ := mIf hr
  obtain ⟨q15, h16, hr⟩ := mBi hr
  refine gCall (z := 34) (n := 0) (f := 0) (kind := 1) (a := (mP μ12 a0 1)) (As := []) (y := 103) (is := List.drop 44 mC103) (L := [.ref a0, w1, .int a2, .ref v3, .int t0]) (rest := []) (μ := μ12) rfl (by decide) (by decide) ⟨rfl, rfl⟩ rfl h14 (Nat.le_of_ble_eq_true rfl) (Nat.le_of_ble_eq_true rfl) (t34 h16) ?_
  refine mGo.steps 1 (c' := (103, List.drop 45 mC103, [.ref a0, w1, .int a2, .ref v3, .int t0], [.int t0], q15)) rfl ?_
  obtain rfl := Option.some.inj hr
  rw [show r = _ from hC]
  exact gIret rfl
def s103_31 (a0 : Nat) (a1 : Int32) (a2 : Int32) (μ : mM) (v3 : Nat) : Option (Int32 × mM) :=
  if (mS μ v3).1 = 2 then if (mI μ v3 1) = 0 then (s103_37 a0 a1 a2 μ v3 0) else (s103_37 a0 a1 a2 μ v3 1) else none
set_option maxRecDepth 20000 in
theorem t103_31 (a0 : Nat) (a1 : Int32) (a2 : Int32) (μ : mM) (v3 : Nat) (w1 : Value) (hw1 : mNotL w1 = true) (w4 : Value) (hw4 : mNotL w4 = true) {o : (Int32 × mM)} {r : Option Value × mM} (hr : s103_31 a0 a1 a2 μ v3 = some o) (hC : r = (some (.int o.1), o.2)) : mGo mG (103, List.drop 31 mC103, [.ref a0, w1, .int a2, .ref v3, w4], [], μ) r := by
  unfold s103_31 at hr
  refine mGo.steps 1 (c' := (103, List.drop 32 mC103, [.ref a0, w1, .int a2, .ref v3, w4], [.ref v3], μ)) rfl ?_
  obtain ⟨h9, hr⟩ := mIf hr
  refine gGet (is := List.drop 33 mC103) (v := .int (mI μ v3 1)) h9 rfl ?_
  rcases mIte hr with ⟨h17, hr⟩ | ⟨h17, hr⟩
  · refine gBrT (p := (mI μ v3 1) = 0) (y := 103) (is := List.drop 34 mC103) (L := [.ref a0, w1, .int a2, .ref v3, w4]) (st := []) (μ := μ) (t := 72) rfl h17 ?_
    refine mGo.steps 1 (c' := (103, List.drop 37 mC103, [.ref a0, w1, .int a2, .ref v3, w4], [.int 0], μ)) rfl ?_
    exact t103_37 a0 a1 a2 μ v3 0 w1 hw1 w4 hw4 hr hC
  · refine gBrF (p := (mI μ v3 1) = 0) (y := 103) (is := List.drop 34 mC103) (L := [.ref a0, w1, .int a2, .ref v3, w4]) (st := []) (μ := μ) (t := 72) rfl h17 ?_
    refine mGo.steps 2 (c' := (103, List.drop 37 mC103, [.ref a0, w1, .int a2, .ref v3, w4], [.int 1], μ)) rfl ?_
    exact t103_37 a0 a1 a2 μ v3 1 w1 hw1 w4 hw4 hr hC
def s103 (μ : mM) (a0 : Nat) (a1 : Int32) (a2 : Int32) : Option (Int32 × mM) :=
  if (mS μ a0).1 = 8 then if (mS μ (mP μ a0 1)).1 = 1 then (s15 μ (mP μ a0 1) a1).bind fun q3 => if ¬ q3 = 0 then ((s18 μ (mP μ a0 1) a1).bind fun q5 => if (mS μ q5).1 = 4 then if (mS μ (mP μ q5 6)).1 = 2 then if (mI μ (mP μ q5 6) 0) = 3 then (if ¬ a2 = 0 then (s103_31 a0 a1 a2 μ (mP μ q5 6)) else ((s29 μ (mP μ a0 1) a1).bind fun q18 => (s137 μ (mI μ (mP μ q5 6) 0)).bind fun q20 => if q18 ≤ q20 then (s103_31 a0 a1 a2 μ (mP μ q5 6)) else (some ((-8), μ)))) else (some ((-2), μ)) else none else none) else (some ((-1), μ)) else none else none
set_option maxRecDepth 20000 in
theorem t103 {μ : mM} {a0 : Nat} {a1 : Int32} {a2 : Int32} {o : (Int32 × mM)} (hr : s103 μ a0 a1 a2 = some o) : mEv mG 103 [.ref a0, .int a1, .int a2] μ (some (.int o.1)) (o.2) := by
  obtain ⟨r, hC⟩ : ∃ r : Option Value × mM, r = (some (.int o.1), o.2) := ⟨_, rfl⟩
  show mGo mG (103, List.drop 0 mC103, [.ref a0, .int a1, .int a2, .retAddr 0, .retAddr 0], [], μ) (some (.int o.1), o.2)
  rw [← hC]
  unfold s103 at hr
  refine mGo.steps 1 (c' := (103, List.drop 1 mC103, [.ref a0, .int a1, .int a2, .retAddr 0, .retAddr 0], [.ref a0], μ)) rfl ?_
  obtain ⟨h1, hr⟩ := mIf hr
  refine gGet (is := List.drop 2 mC103) (v := .ref (mP μ a0 1)) h1 rfl ?_
  refine mGo.steps 1 (c' := (103, List.drop 3 mC103, [.ref a0, .int a1, .int a2, .retAddr 0, .retAddr 0], [.int a1, .ref (mP μ a0 1)], μ)) rfl ?_
  obtain ⟨h2, hr⟩ := mIf hr
  obtain ⟨q3, h4, hr⟩ := mBi hr
  refine gCall (z := 15) (n := 1) (f := 0) (kind := 1) (a := (mP μ a0 1)) (As := [.int a1]) (y := 103) (is := List.drop 4 mC103) (L := [.ref a0, .int a1, .int a2, .retAddr 0, .retAddr 0]) (rest := []) (μ := μ) rfl (by decide) (by decide) ⟨rfl, rfl⟩ rfl h2 (Nat.le_of_ble_eq_true rfl) (Nat.le_of_ble_eq_true rfl) (t15 h4) ?_
  rcases mIte hr with ⟨h25, hr⟩ | ⟨h25, hr⟩
  · refine gBrT (p := ¬ q3 = 0) (y := 103) (is := List.drop 5 mC103) (L := [.ref a0, .int a1, .int a2, .retAddr 0, .retAddr 0]) (st := []) (μ := μ) (t := 13) rfl h25 ?_
    refine mGo.steps 1 (c' := (103, List.drop 8 mC103, [.ref a0, .int a1, .int a2, .retAddr 0, .retAddr 0], [.ref a0], μ)) rfl ?_
    refine gGet (is := List.drop 9 mC103) (v := .ref (mP μ a0 1)) h1 rfl ?_
    refine mGo.steps 1 (c' := (103, List.drop 10 mC103, [.ref a0, .int a1, .int a2, .retAddr 0, .retAddr 0], [.int a1, .ref (mP μ a0 1)], μ)) rfl ?_
    obtain ⟨q5, h6, hr⟩ := mBi hr
    refine gCall (z := 18) (n := 1) (f := 0) (kind := 1) (a := (mP μ a0 1)) (As := [.int a1]) (y := 103) (is := List.drop 11 mC103) (L := [.ref a0, .int a1, .int a2, .retAddr 0, .retAddr 0]) (rest := []) (μ := μ) rfl (by decide) (by decide) ⟨rfl, rfl⟩ rfl h2 (Nat.le_of_ble_eq_true rfl) (Nat.le_of_ble_eq_true rfl) (t18 h6) ?_
    obtain ⟨h7, hr⟩ := mIf hr
    refine gGet (is := List.drop 12 mC103) (v := .ref (mP μ q5 6)) h7 rfl ?_
    refine mGo.steps 2 (c' := (103, List.drop 14 mC103, [.ref a0, .int a1, .int a2, .ref (mP μ q5 6), .retAddr 0], [.ref (mP μ q5 6)], μ)) rfl ?_
    obtain ⟨h8, hr⟩ := mIf hr
    refine gGet (is := List.drop 15 mC103) (v := .int (mI μ (mP μ q5 6) 0)) h8 rfl ?_
    refine mGo.steps 1 (c' := (103, List.drop 16 mC103, [.ref a0, .int a1, .int a2, .ref (mP μ q5 6), .retAddr 0], [.int 3, .int (mI μ (mP μ q5 6) 0)], μ)) rfl ?_
    rcases mIte hr with ⟨h24, hr⟩ | ⟨h24, hr⟩
    · refine gBrT (p := (mI μ (mP μ q5 6) 0) = 3) (y := 103) (is := List.drop 17 mC103) (L := [.ref a0, .int a1, .int a2, .ref (mP μ q5 6), .retAddr 0]) (st := []) (μ := μ) (t := 36) rfl h24 ?_
      refine mGo.steps 1 (c' := (103, List.drop 20 mC103, [.ref a0, .int a1, .int a2, .ref (mP μ q5 6), .retAddr 0], [.int a2], μ)) rfl ?_
      rcases mIte hr with ⟨h23, hr⟩ | ⟨h23, hr⟩
      · refine gBrT (p := ¬ a2 = 0) (y := 103) (is := List.drop 21 mC103) (L := [.ref a0, .int a1, .int a2, .ref (mP μ q5 6), .retAddr 0]) (st := []) (μ := μ) (t := 61) rfl h23 ?_
        exact t103_31 a0 a1 a2 μ (mP μ q5 6) (.int a1) rfl (.retAddr 0) rfl hr hC
      · refine gBrF (p := ¬ a2 = 0) (y := 103) (is := List.drop 21 mC103) (L := [.ref a0, .int a1, .int a2, .ref (mP μ q5 6), .retAddr 0]) (st := []) (μ := μ) (t := 61) rfl h23 ?_
        refine mGo.steps 1 (c' := (103, List.drop 22 mC103, [.ref a0, .int a1, .int a2, .ref (mP μ q5 6), .retAddr 0], [.ref a0], μ)) rfl ?_
        refine gGet (is := List.drop 23 mC103) (v := .ref (mP μ a0 1)) h1 rfl ?_
        refine mGo.steps 1 (c' := (103, List.drop 24 mC103, [.ref a0, .int a1, .int a2, .ref (mP μ q5 6), .retAddr 0], [.int a1, .ref (mP μ a0 1)], μ)) rfl ?_
        obtain ⟨q18, h19, hr⟩ := mBi hr
        refine gCall (z := 29) (n := 1) (f := 0) (kind := 1) (a := (mP μ a0 1)) (As := [.int a1]) (y := 103) (is := List.drop 25 mC103) (L := [.ref a0, .int a1, .int a2, .ref (mP μ q5 6), .retAddr 0]) (rest := []) (μ := μ) rfl (by decide) (by decide) ⟨rfl, rfl⟩ rfl h2 (Nat.le_of_ble_eq_true rfl) (Nat.le_of_ble_eq_true rfl) (t29 h19) ?_
        refine mGo.steps 1 (c' := (103, List.drop 26 mC103, [.ref a0, .int a1, .int a2, .ref (mP μ q5 6), .retAddr 0], [.ref (mP μ q5 6), .int q18], μ)) rfl ?_
        refine gGet (is := List.drop 27 mC103) (v := .int (mI μ (mP μ q5 6) 0)) h8 rfl ?_
        obtain ⟨q20, h21, hr⟩ := mBi hr
        refine mGo.call (z := 137) (as := [.int (mI μ (mP μ q5 6) 0)]) (y := 103) (is := List.drop 28 mC103) (L := [.ref a0, .int a1, .int a2, .ref (mP μ q5 6), .retAddr 0]) (st := [.int q18]) (μ := μ) rfl (t137 h21) ?_
        rcases mIte hr with ⟨h22, hr⟩ | ⟨h22, hr⟩
        · refine gBrT (p := q18 ≤ q20) (y := 103) (is := List.drop 29 mC103) (L := [.ref a0, .int a1, .int a2, .ref (mP μ q5 6), .retAddr 0]) (st := []) (μ := μ) (t := 61) rfl h22 ?_
          exact t103_31 a0 a1 a2 μ (mP μ q5 6) (.int a1) rfl (.retAddr 0) rfl hr hC
        · refine gBrF (p := q18 ≤ q20) (y := 103) (is := List.drop 29 mC103) (L := [.ref a0, .int a1, .int a2, .ref (mP μ q5 6), .retAddr 0]) (st := []) (μ := μ) (t := 61) rfl h22 ?_
          refine mGo.steps 1 (c' := (103, List.drop 30 mC103, [.ref a0, .int a1, .int a2, .ref (mP μ q5 6), .retAddr 0], [.int (-8)], μ)) rfl ?_
          obtain rfl := Option.some.inj hr
          rw [show r = _ from hC]
          exact gIret rfl
    · refine gBrF (p := (mI μ (mP μ q5 6) 0) = 3) (y := 103) (is := List.drop 17 mC103) (L := [.ref a0, .int a1, .int a2, .ref (mP μ q5 6), .retAddr 0]) (st := []) (μ := μ) (t := 36) rfl h24 ?_
      refine mGo.steps 1 (c' := (103, List.drop 18 mC103, [.ref a0, .int a1, .int a2, .ref (mP μ q5 6), .retAddr 0], [.int (-2)], μ)) rfl ?_
      obtain rfl := Option.some.inj hr
      rw [show r = _ from hC]
      exact gIret rfl
  · refine gBrF (p := ¬ q3 = 0) (y := 103) (is := List.drop 5 mC103) (L := [.ref a0, .int a1, .int a2, .retAddr 0, .retAddr 0]) (st := []) (μ := μ) (t := 13) rfl h25 ?_
    refine mGo.steps 1 (c' := (103, List.drop 6 mC103, [.ref a0, .int a1, .int a2, .retAddr 0, .retAddr 0], [.int (-1)], μ)) rfl ?_
    obtain rfl := Option.some.inj hr
    rw [show r = _ from hC]
    exact gIret rfl

/-! 104: TunnelFabric.router(II)I -/
def s104_26 (μ : mM) (a0 : Nat) (a1 : Int32) (a2 : Int32) (t0 : Int32) : Option Int32 :=
  some t0
set_option maxRecDepth 20000 in
theorem t104_26 (μ : mM) (a0 : Nat) (a1 : Int32) (a2 : Int32) (t0 : Int32) (w0 : Value) (hw0 : mNotL w0 = true) (w1 : Value) (hw1 : mNotL w1 = true) (w2 : Value) (hw2 : mNotL w2 = true) (w3 : Value) (hw3 : mNotL w3 = true) {o : Int32} {r : Option Value × mM} (hr : s104_26 μ a0 a1 a2 t0 = some o) (hC : r = (some (.int o), μ)) : mGo mG (104, List.drop 26 mC104, [w0, w1, w2, w3], [.int t0], μ) r := by
  unfold s104_26 at hr
  obtain rfl := Option.some.inj hr
  rw [show r = _ from hC]
  exact gIret rfl
def s104_33 (μ : mM) (a0 : Nat) (a1 : Int32) (a2 : Int32) (t0 : Int32) : Option Int32 :=
  some t0
set_option maxRecDepth 20000 in
theorem t104_33 (μ : mM) (a0 : Nat) (a1 : Int32) (a2 : Int32) (t0 : Int32) (w0 : Value) (hw0 : mNotL w0 = true) (w1 : Value) (hw1 : mNotL w1 = true) (w2 : Value) (hw2 : mNotL w2 = true) (w3 : Value) (hw3 : mNotL w3 = true) {o : Int32} {r : Option Value × mM} (hr : s104_33 μ a0 a1 a2 t0 = some o) (hC : r = (some (.int o), μ)) : mGo mG (104, List.drop 33 mC104, [w0, w1, w2, w3], [.int t0], μ) r := by
  unfold s104_33 at hr
  obtain rfl := Option.some.inj hr
  rw [show r = _ from hC]
  exact gIret rfl
def s104 (μ : mM) (a0 : Nat) (a1 : Int32) (a2 : Int32) : Option Int32 :=
  if (mS μ a0).1 = 8 then if (mS μ (mP μ a0 1)).1 = 1 then (s14 μ (mP μ a0 1) a1).bind fun q3 => if ¬ q3 = 0 then ((s18 μ (mP μ a0 1) a1).bind fun q5 => if a2 = 0 then (if (mS μ q5).1 = 4 then some (mI μ q5 1) else none) else (if a2 = 1 then (if (mS μ q5).1 = 4 then some (mI μ q5 2) else none) else (if a2 = 2 then (if ¬ a1 = 0 then (if (mS μ q5).1 = 4 then s104_26 μ a0 a1 a2 (mI μ q5 3) else none) else (s104_26 μ a0 a1 a2 (-10))) else (if a2 = 3 then (if ¬ a1 = 0 then (if (mS μ q5).1 = 4 then s104_33 μ a0 a1 a2 (mI μ q5 4) else none) else (s104_33 μ a0 a1 a2 (-10))) else (if a2 = 4 then (if (mS μ q5).1 = 4 then some (mI μ q5 5) else none) else (if a2 = 5 then ((s28 μ (mP μ a0 1) a1).bind fun q19 => some (q19 - 1)) else (some (-1)))))))) else (some (-1)) else none else none
set_option maxRecDepth 20000 in
theorem t104 {μ : mM} {a0 : Nat} {a1 : Int32} {a2 : Int32} {o : Int32} (hr : s104 μ a0 a1 a2 = some o) : mEv mG 104 [.ref a0, .int a1, .int a2] μ (some (.int o)) (μ) := by
  obtain ⟨r, hC⟩ : ∃ r : Option Value × mM, r = (some (.int o), μ) := ⟨_, rfl⟩
  show mGo mG (104, List.drop 0 mC104, [.ref a0, .int a1, .int a2, .retAddr 0], [], μ) (some (.int o), μ)
  rw [← hC]
  unfold s104 at hr
  refine mGo.steps 1 (c' := (104, List.drop 1 mC104, [.ref a0, .int a1, .int a2, .retAddr 0], [.ref a0], μ)) rfl ?_
  obtain ⟨h1, hr⟩ := mIf hr
  refine gGet (is := List.drop 2 mC104) (v := .ref (mP μ a0 1)) h1 rfl ?_
  refine mGo.steps 1 (c' := (104, List.drop 3 mC104, [.ref a0, .int a1, .int a2, .retAddr 0], [.int a1, .ref (mP μ a0 1)], μ)) rfl ?_
  obtain ⟨h2, hr⟩ := mIf hr
  obtain ⟨q3, h4, hr⟩ := mBi hr
  refine gCall (z := 14) (n := 1) (f := 0) (kind := 1) (a := (mP μ a0 1)) (As := [.int a1]) (y := 104) (is := List.drop 4 mC104) (L := [.ref a0, .int a1, .int a2, .retAddr 0]) (rest := []) (μ := μ) rfl (by decide) (by decide) ⟨rfl, rfl⟩ rfl h2 (Nat.le_of_ble_eq_true rfl) (Nat.le_of_ble_eq_true rfl) (t14 h4) ?_
  rcases mIte hr with ⟨h22, hr⟩ | ⟨h22, hr⟩
  · refine gBrT (p := ¬ q3 = 0) (y := 104) (is := List.drop 5 mC104) (L := [.ref a0, .int a1, .int a2, .retAddr 0]) (st := []) (μ := μ) (t := 13) rfl h22 ?_
    refine mGo.steps 1 (c' := (104, List.drop 8 mC104, [.ref a0, .int a1, .int a2, .retAddr 0], [.ref a0], μ)) rfl ?_
    refine gGet (is := List.drop 9 mC104) (v := .ref (mP μ a0 1)) h1 rfl ?_
    refine mGo.steps 1 (c' := (104, List.drop 10 mC104, [.ref a0, .int a1, .int a2, .retAddr 0], [.int a1, .ref (mP μ a0 1)], μ)) rfl ?_
    obtain ⟨q5, h6, hr⟩ := mBi hr
    refine gCall (z := 18) (n := 1) (f := 0) (kind := 1) (a := (mP μ a0 1)) (As := [.int a1]) (y := 104) (is := List.drop 11 mC104) (L := [.ref a0, .int a1, .int a2, .retAddr 0]) (rest := []) (μ := μ) rfl (by decide) (by decide) ⟨rfl, rfl⟩ rfl h2 (Nat.le_of_ble_eq_true rfl) (Nat.le_of_ble_eq_true rfl) (t18 h6) ?_
    refine mGo.steps 2 (c' := (104, List.drop 13 mC104, [.ref a0, .int a1, .int a2, .ref q5], [.int a2], μ)) rfl ?_
    refine mGo.steps 1 (c' := (104, mSeek (mTs a2 0 [60, 65, 70, 84, 98, 103] 114) (rC (mG 104)), [.ref a0, .int a1, .int a2, .ref q5], [], μ)) rfl ?_
    rcases mIte hr with ⟨h8, hr⟩ | ⟨h8, hr⟩
    · refine gTs1 (w := 0) h8 rfl ?_
      refine mGo.steps 1 (c' := (104, List.drop 15 mC104, [.ref a0, .int a1, .int a2, .ref q5], [.ref q5], μ)) rfl ?_
      obtain ⟨h7, hr⟩ := mIf hr
      refine gGet (is := List.drop 16 mC104) (v := .int (mI μ q5 1)) h7 rfl ?_
      obtain rfl := Option.some.inj hr
      rw [show r = _ from hC]
      exact gIret rfl
    · refine gTs0 (w := 0) h8 rfl ?_
      rcases mIte hr with ⟨h10, hr⟩ | ⟨h10, hr⟩
      · refine gTs1 (w := 1) h10 rfl ?_
        refine mGo.steps 1 (c' := (104, List.drop 18 mC104, [.ref a0, .int a1, .int a2, .ref q5], [.ref q5], μ)) rfl ?_
        obtain ⟨h9, hr⟩ := mIf hr
        refine gGet (is := List.drop 19 mC104) (v := .int (mI μ q5 2)) h9 rfl ?_
        obtain rfl := Option.some.inj hr
        rw [show r = _ from hC]
        exact gIret rfl
      · refine gTs0 (w := 1) h10 rfl ?_
        rcases mIte hr with ⟨h13, hr⟩ | ⟨h13, hr⟩
        · refine gTs1 (w := 2) h13 rfl ?_
          refine mGo.steps 1 (c' := (104, List.drop 21 mC104, [.ref a0, .int a1, .int a2, .ref q5], [.int a1], μ)) rfl ?_
          rcases mIte hr with ⟨h12, hr⟩ | ⟨h12, hr⟩
          · refine gBrT (p := ¬ a1 = 0) (y := 104) (is := List.drop 22 mC104) (L := [.ref a0, .int a1, .int a2, .ref q5]) (st := []) (μ := μ) (t := 79) rfl h12 ?_
            refine mGo.steps 1 (c' := (104, List.drop 25 mC104, [.ref a0, .int a1, .int a2, .ref q5], [.ref q5], μ)) rfl ?_
            obtain ⟨h11, hr⟩ := mIf hr
            refine gGet (is := List.drop 26 mC104) (v := .int (mI μ q5 3)) h11 rfl ?_
            exact t104_26 μ a0 a1 a2 (mI μ q5 3) (.ref a0) rfl (.int a1) rfl (.int a2) rfl (.ref q5) rfl hr hC
          · refine gBrF (p := ¬ a1 = 0) (y := 104) (is := List.drop 22 mC104) (L := [.ref a0, .int a1, .int a2, .ref q5]) (st := []) (μ := μ) (t := 79) rfl h12 ?_
            refine mGo.steps 2 (c' := (104, List.drop 26 mC104, [.ref a0, .int a1, .int a2, .ref q5], [.int (-10)], μ)) rfl ?_
            exact t104_26 μ a0 a1 a2 (-10) (.ref a0) rfl (.int a1) rfl (.int a2) rfl (.ref q5) rfl hr hC
        · refine gTs0 (w := 2) h13 rfl ?_
          rcases mIte hr with ⟨h16, hr⟩ | ⟨h16, hr⟩
          · refine gTs1 (w := 3) h16 rfl ?_
            refine mGo.steps 1 (c' := (104, List.drop 28 mC104, [.ref a0, .int a1, .int a2, .ref q5], [.int a1], μ)) rfl ?_
            rcases mIte hr with ⟨h15, hr⟩ | ⟨h15, hr⟩
            · refine gBrT (p := ¬ a1 = 0) (y := 104) (is := List.drop 29 mC104) (L := [.ref a0, .int a1, .int a2, .ref q5]) (st := []) (μ := μ) (t := 93) rfl h15 ?_
              refine mGo.steps 1 (c' := (104, List.drop 32 mC104, [.ref a0, .int a1, .int a2, .ref q5], [.ref q5], μ)) rfl ?_
              obtain ⟨h14, hr⟩ := mIf hr
              refine gGet (is := List.drop 33 mC104) (v := .int (mI μ q5 4)) h14 rfl ?_
              exact t104_33 μ a0 a1 a2 (mI μ q5 4) (.ref a0) rfl (.int a1) rfl (.int a2) rfl (.ref q5) rfl hr hC
            · refine gBrF (p := ¬ a1 = 0) (y := 104) (is := List.drop 29 mC104) (L := [.ref a0, .int a1, .int a2, .ref q5]) (st := []) (μ := μ) (t := 93) rfl h15 ?_
              refine mGo.steps 2 (c' := (104, List.drop 33 mC104, [.ref a0, .int a1, .int a2, .ref q5], [.int (-10)], μ)) rfl ?_
              exact t104_33 μ a0 a1 a2 (-10) (.ref a0) rfl (.int a1) rfl (.int a2) rfl (.ref q5) rfl hr hC
          · refine gTs0 (w := 3) h16 rfl ?_
            rcases mIte hr with ⟨h18, hr⟩ | ⟨h18, hr⟩
            · refine gTs1 (w := 4) h18 rfl ?_
              refine mGo.steps 1 (c' := (104, List.drop 35 mC104, [.ref a0, .int a1, .int a2, .ref q5], [.ref q5], μ)) rfl ?_
              obtain ⟨h17, hr⟩ := mIf hr
              refine gGet (is := List.drop 36 mC104) (v := .int (mI μ q5 5)) h17 rfl ?_
              obtain rfl := Option.some.inj hr
              rw [show r = _ from hC]
              exact gIret rfl
            · refine gTs0 (w := 4) h18 rfl ?_
              rcases mIte hr with ⟨h21, hr⟩ | ⟨h21, hr⟩
              · refine gTs1 (w := 5) h21 rfl ?_
                refine mGo.steps 1 (c' := (104, List.drop 38 mC104, [.ref a0, .int a1, .int a2, .ref q5], [.ref a0], μ)) rfl ?_
                refine gGet (is := List.drop 39 mC104) (v := .ref (mP μ a0 1)) h1 rfl ?_
                refine mGo.steps 1 (c' := (104, List.drop 40 mC104, [.ref a0, .int a1, .int a2, .ref q5], [.int a1, .ref (mP μ a0 1)], μ)) rfl ?_
                obtain ⟨q19, h20, hr⟩ := mBi hr
                refine gCall (z := 28) (n := 1) (f := 0) (kind := 1) (a := (mP μ a0 1)) (As := [.int a1]) (y := 104) (is := List.drop 41 mC104) (L := [.ref a0, .int a1, .int a2, .ref q5]) (rest := []) (μ := μ) rfl (by decide) (by decide) ⟨rfl, rfl⟩ rfl h2 (Nat.le_of_ble_eq_true rfl) (Nat.le_of_ble_eq_true rfl) (t28 h20) ?_
                refine mGo.steps 2 (c' := (104, List.drop 43 mC104, [.ref a0, .int a1, .int a2, .ref q5], [.int (q19 - 1)], μ)) rfl ?_
                obtain rfl := Option.some.inj hr
                rw [show r = _ from hC]
                exact gIret rfl
              · refine gTs0 (w := 5) h21 rfl ?_
                refine mGo.steps 1 (c' := (104, List.drop 45 mC104, [.ref a0, .int a1, .int a2, .ref q5], [.int (-1)], μ)) rfl ?_
                obtain rfl := Option.some.inj hr
                rw [show r = _ from hC]
                exact gIret rfl
  · refine gBrF (p := ¬ q3 = 0) (y := 104) (is := List.drop 5 mC104) (L := [.ref a0, .int a1, .int a2, .retAddr 0]) (st := []) (μ := μ) (t := 13) rfl h22 ?_
    refine mGo.steps 1 (c' := (104, List.drop 6 mC104, [.ref a0, .int a1, .int a2, .retAddr 0], [.int (-1)], μ)) rfl ?_
    obtain rfl := Option.some.inj hr
    rw [show r = _ from hC]
    exact gIret rfl

/-! 105: TunnelFabric.plugged(II)I -/
def s105_20 (μ : mM) (a0 : Nat) (a1 : Int32) (a2 : Int32) (t0 : Int32) : Option Int32 :=
  some t0
set_option maxRecDepth 20000 in
theorem t105_20 (μ : mM) (a0 : Nat) (a1 : Int32) (a2 : Int32) (t0 : Int32) (w0 : Value) (hw0 : mNotL w0 = true) (w1 : Value) (hw1 : mNotL w1 = true) (w2 : Value) (hw2 : mNotL w2 = true) (w3 : Value) (hw3 : mNotL w3 = true) {o : Int32} {r : Option Value × mM} (hr : s105_20 μ a0 a1 a2 t0 = some o) (hC : r = (some (.int o), μ)) : mGo mG (105, List.drop 20 mC105, [w0, w1, w2, w3], [.int t0], μ) r := by
  unfold s105_20 at hr
  obtain rfl := Option.some.inj hr
  rw [show r = _ from hC]
  exact gIret rfl
def s105 (μ : mM) (a0 : Nat) (a1 : Int32) (a2 : Int32) : Option Int32 :=
  if (mS μ a0).1 = 8 then if (mS μ (mP μ a0 1)).1 = 1 then (s16 μ (mP μ a0 1) a1 a2).bind fun q3 => if ¬ q3 = 0 then ((s23 μ (mP μ a0 1) a1 a2).bind fun q5 => if ¬ q5 = (-1) then (s105_20 μ a0 a1 a2 q5) else (s105_20 μ a0 a1 a2 (-10))) else (some (-1)) else none else none
set_option maxRecDepth 20000 in
theorem t105 {μ : mM} {a0 : Nat} {a1 : Int32} {a2 : Int32} {o : Int32} (hr : s105 μ a0 a1 a2 = some o) : mEv mG 105 [.ref a0, .int a1, .int a2] μ (some (.int o)) (μ) := by
  obtain ⟨r, hC⟩ : ∃ r : Option Value × mM, r = (some (.int o), μ) := ⟨_, rfl⟩
  show mGo mG (105, List.drop 0 mC105, [.ref a0, .int a1, .int a2, .retAddr 0], [], μ) (some (.int o), μ)
  rw [← hC]
  unfold s105 at hr
  refine mGo.steps 1 (c' := (105, List.drop 1 mC105, [.ref a0, .int a1, .int a2, .retAddr 0], [.ref a0], μ)) rfl ?_
  obtain ⟨h1, hr⟩ := mIf hr
  refine gGet (is := List.drop 2 mC105) (v := .ref (mP μ a0 1)) h1 rfl ?_
  refine mGo.steps 2 (c' := (105, List.drop 4 mC105, [.ref a0, .int a1, .int a2, .retAddr 0], [.int a2, .int a1, .ref (mP μ a0 1)], μ)) rfl ?_
  obtain ⟨h2, hr⟩ := mIf hr
  obtain ⟨q3, h4, hr⟩ := mBi hr
  refine gCall (z := 16) (n := 2) (f := 0) (kind := 1) (a := (mP μ a0 1)) (As := [.int a1, .int a2]) (y := 105) (is := List.drop 5 mC105) (L := [.ref a0, .int a1, .int a2, .retAddr 0]) (rest := []) (μ := μ) rfl (by decide) (by decide) ⟨rfl, rfl⟩ rfl h2 (Nat.le_of_ble_eq_true rfl) (Nat.le_of_ble_eq_true rfl) (t16 h4) ?_
  rcases mIte hr with ⟨h8, hr⟩ | ⟨h8, hr⟩
  · refine gBrT (p := ¬ q3 = 0) (y := 105) (is := List.drop 6 mC105) (L := [.ref a0, .int a1, .int a2, .retAddr 0]) (st := []) (μ := μ) (t := 14) rfl h8 ?_
    refine mGo.steps 1 (c' := (105, List.drop 9 mC105, [.ref a0, .int a1, .int a2, .retAddr 0], [.ref a0], μ)) rfl ?_
    refine gGet (is := List.drop 10 mC105) (v := .ref (mP μ a0 1)) h1 rfl ?_
    refine mGo.steps 2 (c' := (105, List.drop 12 mC105, [.ref a0, .int a1, .int a2, .retAddr 0], [.int a2, .int a1, .ref (mP μ a0 1)], μ)) rfl ?_
    obtain ⟨q5, h6, hr⟩ := mBi hr
    refine gCall (z := 23) (n := 2) (f := 0) (kind := 1) (a := (mP μ a0 1)) (As := [.int a1, .int a2]) (y := 105) (is := List.drop 13 mC105) (L := [.ref a0, .int a1, .int a2, .retAddr 0]) (rest := []) (μ := μ) rfl (by decide) (by decide) ⟨rfl, rfl⟩ rfl h2 (Nat.le_of_ble_eq_true rfl) (Nat.le_of_ble_eq_true rfl) (t23 h6) ?_
    refine mGo.steps 3 (c' := (105, List.drop 16 mC105, [.ref a0, .int a1, .int a2, .int q5], [.int (-1), .int q5], μ)) rfl ?_
    rcases mIte hr with ⟨h7, hr⟩ | ⟨h7, hr⟩
    · refine gBrT (p := ¬ q5 = (-1)) (y := 105) (is := List.drop 17 mC105) (L := [.ref a0, .int a1, .int a2, .int q5]) (st := []) (μ := μ) (t := 34) rfl h7 ?_
      refine mGo.steps 1 (c' := (105, List.drop 20 mC105, [.ref a0, .int a1, .int a2, .int q5], [.int q5], μ)) rfl ?_
      exact t105_20 μ a0 a1 a2 q5 (.ref a0) rfl (.int a1) rfl (.int a2) rfl (.int q5) rfl hr hC
    · refine gBrF (p := ¬ q5 = (-1)) (y := 105) (is := List.drop 17 mC105) (L := [.ref a0, .int a1, .int a2, .int q5]) (st := []) (μ := μ) (t := 34) rfl h7 ?_
      refine mGo.steps 2 (c' := (105, List.drop 20 mC105, [.ref a0, .int a1, .int a2, .int q5], [.int (-10)], μ)) rfl ?_
      exact t105_20 μ a0 a1 a2 (-10) (.ref a0) rfl (.int a1) rfl (.int a2) rfl (.int q5) rfl hr hC
  · refine gBrF (p := ¬ q3 = 0) (y := 105) (is := List.drop 6 mC105) (L := [.ref a0, .int a1, .int a2, .retAddr 0]) (st := []) (μ := μ) (t := 14) rfl h8 ?_
    refine mGo.steps 1 (c' := (105, List.drop 7 mC105, [.ref a0, .int a1, .int a2, .retAddr 0], [.int (-1)], μ)) rfl ?_
    obtain rfl := Option.some.inj hr
    rw [show r = _ from hC]
    exact gIret rfl

/-! 106: TunnelFabric.link(II)I -/
def s106_24 (μ : mM) (a0 : Nat) (a1 : Int32) (a2 : Int32) (t0 : Int32) : Option Int32 :=
  some t0
set_option maxRecDepth 20000 in
theorem t106_24 (μ : mM) (a0 : Nat) (a1 : Int32) (a2 : Int32) (t0 : Int32) (w0 : Value) (hw0 : mNotL w0 = true) (w1 : Value) (hw1 : mNotL w1 = true) (w2 : Value) (hw2 : mNotL w2 = true) (w3 : Value) (hw3 : mNotL w3 = true) {o : Int32} {r : Option Value × mM} (hr : s106_24 μ a0 a1 a2 t0 = some o) (hC : r = (some (.int o), μ)) : mGo mG (106, List.drop 24 mC106, [w0, w1, w2, w3], [.int t0], μ) r := by
  unfold s106_24 at hr
  obtain rfl := Option.some.inj hr
  rw [show r = _ from hC]
  exact gIret rfl
def s106 (μ : mM) (a0 : Nat) (a1 : Int32) (a2 : Int32) : Option Int32 :=
  if (mS μ a0).1 = 8 then if (mS μ (mP μ a0 1)).1 = 1 then (s15 μ (mP μ a0 1) a1).bind fun q3 => if ¬ q3 = 0 then ((s18 μ (mP μ a0 1) a1).bind fun q5 => if (mS μ q5).1 = 4 then if a2 = 0 then (if (mS μ (mP μ q5 6)).1 = 2 then some (mI μ (mP μ q5 6) 0) else none) else (if a2 = 1 then (if (mS μ (mP μ q5 6)).1 = 2 then if (mI μ (mP μ q5 6) 1) = 0 then (s106_24 μ a0 a1 a2 0) else (s106_24 μ a0 a1 a2 1) else none) else (if a2 = 2 then ((s29 μ (mP μ a0 1) a1).bind fun q13 => some q13) else (if a2 = 3 then (if (mS μ (mP μ q5 6)).1 = 2 then (s54 μ (mP μ q5 6)).bind fun q17 => some q17 else none) else (if a2 = 4 then (if (mS μ (mP μ q5 6)).1 = 2 then some (mI μ (mP μ q5 6) 2) else none) else (if a2 = 5 then (if (mS μ (mP μ q5 6)).1 = 2 then some (mI μ (mP μ q5 6) 3) else none) else (if a2 = 6 then (if (mS μ (mP μ q5 6)).1 = 2 then some (mI μ (mP μ q5 6) 4) else none) else (some (-1)))))))) else none) else (some (-1)) else none else none
set_option maxRecDepth 20000 in
theorem t106 {μ : mM} {a0 : Nat} {a1 : Int32} {a2 : Int32} {o : Int32} (hr : s106 μ a0 a1 a2 = some o) : mEv mG 106 [.ref a0, .int a1, .int a2] μ (some (.int o)) (μ) := by
  obtain ⟨r, hC⟩ : ∃ r : Option Value × mM, r = (some (.int o), μ) := ⟨_, rfl⟩
  show mGo mG (106, List.drop 0 mC106, [.ref a0, .int a1, .int a2, .retAddr 0], [], μ) (some (.int o), μ)
  rw [← hC]
  unfold s106 at hr
  refine mGo.steps 1 (c' := (106, List.drop 1 mC106, [.ref a0, .int a1, .int a2, .retAddr 0], [.ref a0], μ)) rfl ?_
  obtain ⟨h1, hr⟩ := mIf hr
  refine gGet (is := List.drop 2 mC106) (v := .ref (mP μ a0 1)) h1 rfl ?_
  refine mGo.steps 1 (c' := (106, List.drop 3 mC106, [.ref a0, .int a1, .int a2, .retAddr 0], [.int a1, .ref (mP μ a0 1)], μ)) rfl ?_
  obtain ⟨h2, hr⟩ := mIf hr
  obtain ⟨q3, h4, hr⟩ := mBi hr
  refine gCall (z := 15) (n := 1) (f := 0) (kind := 1) (a := (mP μ a0 1)) (As := [.int a1]) (y := 106) (is := List.drop 4 mC106) (L := [.ref a0, .int a1, .int a2, .retAddr 0]) (rest := []) (μ := μ) rfl (by decide) (by decide) ⟨rfl, rfl⟩ rfl h2 (Nat.le_of_ble_eq_true rfl) (Nat.le_of_ble_eq_true rfl) (t15 h4) ?_
  rcases mIte hr with ⟨h26, hr⟩ | ⟨h26, hr⟩
  · refine gBrT (p := ¬ q3 = 0) (y := 106) (is := List.drop 5 mC106) (L := [.ref a0, .int a1, .int a2, .retAddr 0]) (st := []) (μ := μ) (t := 13) rfl h26 ?_
    refine mGo.steps 1 (c' := (106, List.drop 8 mC106, [.ref a0, .int a1, .int a2, .retAddr 0], [.ref a0], μ)) rfl ?_
    refine gGet (is := List.drop 9 mC106) (v := .ref (mP μ a0 1)) h1 rfl ?_
    refine mGo.steps 1 (c' := (106, List.drop 10 mC106, [.ref a0, .int a1, .int a2, .retAddr 0], [.int a1, .ref (mP μ a0 1)], μ)) rfl ?_
    obtain ⟨q5, h6, hr⟩ := mBi hr
    refine gCall (z := 18) (n := 1) (f := 0) (kind := 1) (a := (mP μ a0 1)) (As := [.int a1]) (y := 106) (is := List.drop 11 mC106) (L := [.ref a0, .int a1, .int a2, .retAddr 0]) (rest := []) (μ := μ) rfl (by decide) (by decide) ⟨rfl, rfl⟩ rfl h2 (Nat.le_of_ble_eq_true rfl) (Nat.le_of_ble_eq_true rfl) (t18 h6) ?_
    obtain ⟨h7, hr⟩ := mIf hr
    refine gGet (is := List.drop 12 mC106) (v := .ref (mP μ q5 6)) h7 rfl ?_
    refine mGo.steps 2 (c' := (106, List.drop 14 mC106, [.ref a0, .int a1, .int a2, .ref (mP μ q5 6)], [.int a2], μ)) rfl ?_
    refine mGo.steps 1 (c' := (106, mSeek (mTs a2 0 [68, 73, 86, 95, 100, 105, 110] 115) (rC (mG 106)), [.ref a0, .int a1, .int a2, .ref (mP μ q5 6)], [], μ)) rfl ?_
    rcases mIte hr with ⟨h9, hr⟩ | ⟨h9, hr⟩
    · refine gTs1 (w := 0) h9 rfl ?_
      refine mGo.steps 1 (c' := (106, List.drop 16 mC106, [.ref a0, .int a1, .int a2, .ref (mP μ q5 6)], [.ref (mP μ q5 6)], μ)) rfl ?_
      obtain ⟨h8, hr⟩ := mIf hr
      refine gGet (is := List.drop 17 mC106) (v := .int (mI μ (mP μ q5 6) 0)) h8 rfl ?_
      obtain rfl := Option.some.inj hr
      rw [show r = _ from hC]
      exact gIret rfl
    · refine gTs0 (w := 0) h9 rfl ?_
      rcases mIte hr with ⟨h12, hr⟩ | ⟨h12, hr⟩
      · refine gTs1 (w := 1) h12 rfl ?_
        refine mGo.steps 1 (c' := (106, List.drop 19 mC106, [.ref a0, .int a1, .int a2, .ref (mP μ q5 6)], [.ref (mP μ q5 6)], μ)) rfl ?_
        obtain ⟨h10, hr⟩ := mIf hr
        refine gGet (is := List.drop 20 mC106) (v := .int (mI μ (mP μ q5 6) 1)) h10 rfl ?_
        rcases mIte hr with ⟨h11, hr⟩ | ⟨h11, hr⟩
        · refine gBrT (p := (mI μ (mP μ q5 6) 1) = 0) (y := 106) (is := List.drop 21 mC106) (L := [.ref a0, .int a1, .int a2, .ref (mP μ q5 6)]) (st := []) (μ := μ) (t := 84) rfl h11 ?_
          refine mGo.steps 1 (c' := (106, List.drop 24 mC106, [.ref a0, .int a1, .int a2, .ref (mP μ q5 6)], [.int 0], μ)) rfl ?_
          exact t106_24 μ a0 a1 a2 0 (.ref a0) rfl (.int a1) rfl (.int a2) rfl (.ref (mP μ q5 6)) rfl hr hC
        · refine gBrF (p := (mI μ (mP μ q5 6) 1) = 0) (y := 106) (is := List.drop 21 mC106) (L := [.ref a0, .int a1, .int a2, .ref (mP μ q5 6)]) (st := []) (μ := μ) (t := 84) rfl h11 ?_
          refine mGo.steps 2 (c' := (106, List.drop 24 mC106, [.ref a0, .int a1, .int a2, .ref (mP μ q5 6)], [.int 1], μ)) rfl ?_
          exact t106_24 μ a0 a1 a2 1 (.ref a0) rfl (.int a1) rfl (.int a2) rfl (.ref (mP μ q5 6)) rfl hr hC
      · refine gTs0 (w := 1) h12 rfl ?_
        rcases mIte hr with ⟨h15, hr⟩ | ⟨h15, hr⟩
        · refine gTs1 (w := 2) h15 rfl ?_
          refine mGo.steps 1 (c' := (106, List.drop 26 mC106, [.ref a0, .int a1, .int a2, .ref (mP μ q5 6)], [.ref a0], μ)) rfl ?_
          refine gGet (is := List.drop 27 mC106) (v := .ref (mP μ a0 1)) h1 rfl ?_
          refine mGo.steps 1 (c' := (106, List.drop 28 mC106, [.ref a0, .int a1, .int a2, .ref (mP μ q5 6)], [.int a1, .ref (mP μ a0 1)], μ)) rfl ?_
          obtain ⟨q13, h14, hr⟩ := mBi hr
          refine gCall (z := 29) (n := 1) (f := 0) (kind := 1) (a := (mP μ a0 1)) (As := [.int a1]) (y := 106) (is := List.drop 29 mC106) (L := [.ref a0, .int a1, .int a2, .ref (mP μ q5 6)]) (rest := []) (μ := μ) rfl (by decide) (by decide) ⟨rfl, rfl⟩ rfl h2 (Nat.le_of_ble_eq_true rfl) (Nat.le_of_ble_eq_true rfl) (t29 h14) ?_
          obtain rfl := Option.some.inj hr
          rw [show r = _ from hC]
          exact gIret rfl
        · refine gTs0 (w := 2) h15 rfl ?_
          rcases mIte hr with ⟨h19, hr⟩ | ⟨h19, hr⟩
          · refine gTs1 (w := 3) h19 rfl ?_
            refine mGo.steps 1 (c' := (106, List.drop 31 mC106, [.ref a0, .int a1, .int a2, .ref (mP μ q5 6)], [.ref (mP μ q5 6)], μ)) rfl ?_
            obtain ⟨h16, hr⟩ := mIf hr
            obtain ⟨q17, h18, hr⟩ := mBi hr
            refine gCall (z := 54) (n := 0) (f := 0) (kind := 1) (a := (mP μ q5 6)) (As := []) (y := 106) (is := List.drop 32 mC106) (L := [.ref a0, .int a1, .int a2, .ref (mP μ q5 6)]) (rest := []) (μ := μ) rfl (by decide) (by decide) ⟨rfl, rfl⟩ rfl h16 (Nat.le_of_ble_eq_true rfl) (Nat.le_of_ble_eq_true rfl) (t54 h18) ?_
            obtain rfl := Option.some.inj hr
            rw [show r = _ from hC]
            exact gIret rfl
          · refine gTs0 (w := 3) h19 rfl ?_
            rcases mIte hr with ⟨h21, hr⟩ | ⟨h21, hr⟩
            · refine gTs1 (w := 4) h21 rfl ?_
              refine mGo.steps 1 (c' := (106, List.drop 34 mC106, [.ref a0, .int a1, .int a2, .ref (mP μ q5 6)], [.ref (mP μ q5 6)], μ)) rfl ?_
              obtain ⟨h20, hr⟩ := mIf hr
              refine gGet (is := List.drop 35 mC106) (v := .int (mI μ (mP μ q5 6) 2)) h20 rfl ?_
              obtain rfl := Option.some.inj hr
              rw [show r = _ from hC]
              exact gIret rfl
            · refine gTs0 (w := 4) h21 rfl ?_
              rcases mIte hr with ⟨h23, hr⟩ | ⟨h23, hr⟩
              · refine gTs1 (w := 5) h23 rfl ?_
                refine mGo.steps 1 (c' := (106, List.drop 37 mC106, [.ref a0, .int a1, .int a2, .ref (mP μ q5 6)], [.ref (mP μ q5 6)], μ)) rfl ?_
                obtain ⟨h22, hr⟩ := mIf hr
                refine gGet (is := List.drop 38 mC106) (v := .int (mI μ (mP μ q5 6) 3)) h22 rfl ?_
                obtain rfl := Option.some.inj hr
                rw [show r = _ from hC]
                exact gIret rfl
              · refine gTs0 (w := 5) h23 rfl ?_
                rcases mIte hr with ⟨h25, hr⟩ | ⟨h25, hr⟩
                · refine gTs1 (w := 6) h25 rfl ?_
                  refine mGo.steps 1 (c' := (106, List.drop 40 mC106, [.ref a0, .int a1, .int a2, .ref (mP μ q5 6)], [.ref (mP μ q5 6)], μ)) rfl ?_
                  obtain ⟨h24, hr⟩ := mIf hr
                  refine gGet (is := List.drop 41 mC106) (v := .int (mI μ (mP μ q5 6) 4)) h24 rfl ?_
                  obtain rfl := Option.some.inj hr
                  rw [show r = _ from hC]
                  exact gIret rfl
                · refine gTs0 (w := 6) h25 rfl ?_
                  refine mGo.steps 1 (c' := (106, List.drop 43 mC106, [.ref a0, .int a1, .int a2, .ref (mP μ q5 6)], [.int (-1)], μ)) rfl ?_
                  obtain rfl := Option.some.inj hr
                  rw [show r = _ from hC]
                  exact gIret rfl
  · refine gBrF (p := ¬ q3 = 0) (y := 106) (is := List.drop 5 mC106) (L := [.ref a0, .int a1, .int a2, .retAddr 0]) (st := []) (μ := μ) (t := 13) rfl h26 ?_
    refine mGo.steps 1 (c' := (106, List.drop 6 mC106, [.ref a0, .int a1, .int a2, .retAddr 0], [.int (-1)], μ)) rfl ?_
    obtain rfl := Option.some.inj hr
    rw [show r = _ from hC]
    exact gIret rfl

/-! 107: TunnelFabric.capacity(II)I -/
def s107_8 (μ : mM) (a0 : Nat) (a1 : Int32) (a2 : Int32) : Option Int32 :=
  some (-1)
set_option maxRecDepth 20000 in
theorem t107_8 (μ : mM) (a0 : Nat) (a1 : Int32) (a2 : Int32) (w0 : Value) (hw0 : mNotL w0 = true) (w1 : Value) (hw1 : mNotL w1 = true) (w2 : Value) (hw2 : mNotL w2 = true) {o : Int32} {r : Option Value × mM} (hr : s107_8 μ a0 a1 a2 = some o) (hC : r = (some (.int o), μ)) : mGo mG (107, List.drop 8 mC107, [w0, w1, w2], [], μ) r := by
  unfold s107_8 at hr
  refine mGo.steps 1 (c' := (107, List.drop 9 mC107, [w0, w1, w2], [.int (-1)], μ)) rfl ?_
  obtain rfl := Option.some.inj hr
  rw [show r = _ from hC]
  exact gIret rfl
def s107 (μ : mM) (a0 : Nat) (a1 : Int32) (a2 : Int32) : Option Int32 :=
  if (mS μ a0).1 = 8 then if (mS μ (mP μ a0 1)).1 = 1 then (s15 μ (mP μ a0 1) a1).bind fun q3 => if q3 = 0 then (s107_8 μ a0 a1 a2) else ((s132 μ a2).bind fun q5 => if ¬ q5 = 0 then ((s18 μ (mP μ a0 1) a1).bind fun q7 => if (mS μ q7).1 = 4 then if (mS μ (mP μ q7 6)).1 = 2 then (s53 μ (mP μ q7 6) a2).bind fun q11 => some q11 else none else none) else (s107_8 μ a0 a1 a2)) else none else none
set_option maxRecDepth 20000 in
theorem t107 {μ : mM} {a0 : Nat} {a1 : Int32} {a2 : Int32} {o : Int32} (hr : s107 μ a0 a1 a2 = some o) : mEv mG 107 [.ref a0, .int a1, .int a2] μ (some (.int o)) (μ) := by
  obtain ⟨r, hC⟩ : ∃ r : Option Value × mM, r = (some (.int o), μ) := ⟨_, rfl⟩
  show mGo mG (107, List.drop 0 mC107, [.ref a0, .int a1, .int a2], [], μ) (some (.int o), μ)
  rw [← hC]
  unfold s107 at hr
  refine mGo.steps 1 (c' := (107, List.drop 1 mC107, [.ref a0, .int a1, .int a2], [.ref a0], μ)) rfl ?_
  obtain ⟨h1, hr⟩ := mIf hr
  refine gGet (is := List.drop 2 mC107) (v := .ref (mP μ a0 1)) h1 rfl ?_
  refine mGo.steps 1 (c' := (107, List.drop 3 mC107, [.ref a0, .int a1, .int a2], [.int a1, .ref (mP μ a0 1)], μ)) rfl ?_
  obtain ⟨h2, hr⟩ := mIf hr
  obtain ⟨q3, h4, hr⟩ := mBi hr
  refine gCall (z := 15) (n := 1) (f := 0) (kind := 1) (a := (mP μ a0 1)) (As := [.int a1]) (y := 107) (is := List.drop 4 mC107) (L := [.ref a0, .int a1, .int a2]) (rest := []) (μ := μ) rfl (by decide) (by decide) ⟨rfl, rfl⟩ rfl h2 (Nat.le_of_ble_eq_true rfl) (Nat.le_of_ble_eq_true rfl) (t15 h4) ?_
  rcases mIte hr with ⟨h14, hr⟩ | ⟨h14, hr⟩
  · refine gBrT (p := q3 = 0) (y := 107) (is := List.drop 5 mC107) (L := [.ref a0, .int a1, .int a2]) (st := []) (μ := μ) (t := 18) rfl h14 ?_
    exact t107_8 μ a0 a1 a2 (.ref a0) rfl (.int a1) rfl (.int a2) rfl hr hC
  · refine gBrF (p := q3 = 0) (y := 107) (is := List.drop 5 mC107) (L := [.ref a0, .int a1, .int a2]) (st := []) (μ := μ) (t := 18) rfl h14 ?_
    refine mGo.steps 1 (c' := (107, List.drop 6 mC107, [.ref a0, .int a1, .int a2], [.int a2], μ)) rfl ?_
    obtain ⟨q5, h6, hr⟩ := mBi hr
    refine mGo.call (z := 132) (as := [.int a2]) (y := 107) (is := List.drop 7 mC107) (L := [.ref a0, .int a1, .int a2]) (st := []) (μ := μ) rfl (t132 h6) ?_
    rcases mIte hr with ⟨h13, hr⟩ | ⟨h13, hr⟩
    · refine gBrT (p := ¬ q5 = 0) (y := 107) (is := List.drop 8 mC107) (L := [.ref a0, .int a1, .int a2]) (st := []) (μ := μ) (t := 20) rfl h13 ?_
      refine mGo.steps 1 (c' := (107, List.drop 11 mC107, [.ref a0, .int a1, .int a2], [.ref a0], μ)) rfl ?_
      refine gGet (is := List.drop 12 mC107) (v := .ref (mP μ a0 1)) h1 rfl ?_
      refine mGo.steps 1 (c' := (107, List.drop 13 mC107, [.ref a0, .int a1, .int a2], [.int a1, .ref (mP μ a0 1)], μ)) rfl ?_
      obtain ⟨q7, h8, hr⟩ := mBi hr
      refine gCall (z := 18) (n := 1) (f := 0) (kind := 1) (a := (mP μ a0 1)) (As := [.int a1]) (y := 107) (is := List.drop 14 mC107) (L := [.ref a0, .int a1, .int a2]) (rest := []) (μ := μ) rfl (by decide) (by decide) ⟨rfl, rfl⟩ rfl h2 (Nat.le_of_ble_eq_true rfl) (Nat.le_of_ble_eq_true rfl) (t18 h8) ?_
      obtain ⟨h9, hr⟩ := mIf hr
      refine gGet (is := List.drop 15 mC107) (v := .ref (mP μ q7 6)) h9 rfl ?_
      refine mGo.steps 1 (c' := (107, List.drop 16 mC107, [.ref a0, .int a1, .int a2], [.int a2, .ref (mP μ q7 6)], μ)) rfl ?_
      obtain ⟨h10, hr⟩ := mIf hr
      obtain ⟨q11, h12, hr⟩ := mBi hr
      refine gCall (z := 53) (n := 1) (f := 0) (kind := 1) (a := (mP μ q7 6)) (As := [.int a2]) (y := 107) (is := List.drop 17 mC107) (L := [.ref a0, .int a1, .int a2]) (rest := []) (μ := μ) rfl (by decide) (by decide) ⟨rfl, rfl⟩ rfl h10 (Nat.le_of_ble_eq_true rfl) (Nat.le_of_ble_eq_true rfl) (t53 h12) ?_
      obtain rfl := Option.some.inj hr
      rw [show r = _ from hC]
      exact gIret rfl
    · refine gBrF (p := ¬ q5 = 0) (y := 107) (is := List.drop 8 mC107) (L := [.ref a0, .int a1, .int a2]) (st := []) (μ := μ) (t := 20) rfl h13 ?_
      exact t107_8 μ a0 a1 a2 (.ref a0) rfl (.int a1) rfl (.int a2) rfl hr hC

/-! 108: TunnelFabric.freeCredits(II)I -/
def s108_8 (μ : mM) (a0 : Nat) (a1 : Int32) (a2 : Int32) : Option Int32 :=
  some (-1)
set_option maxRecDepth 20000 in
theorem t108_8 (μ : mM) (a0 : Nat) (a1 : Int32) (a2 : Int32) (w0 : Value) (hw0 : mNotL w0 = true) (w1 : Value) (hw1 : mNotL w1 = true) (w2 : Value) (hw2 : mNotL w2 = true) {o : Int32} {r : Option Value × mM} (hr : s108_8 μ a0 a1 a2 = some o) (hC : r = (some (.int o), μ)) : mGo mG (108, List.drop 8 mC108, [w0, w1, w2], [], μ) r := by
  unfold s108_8 at hr
  refine mGo.steps 1 (c' := (108, List.drop 9 mC108, [w0, w1, w2], [.int (-1)], μ)) rfl ?_
  obtain rfl := Option.some.inj hr
  rw [show r = _ from hC]
  exact gIret rfl
def s108 (μ : mM) (a0 : Nat) (a1 : Int32) (a2 : Int32) : Option Int32 :=
  if (mS μ a0).1 = 8 then if (mS μ (mP μ a0 1)).1 = 1 then (s15 μ (mP μ a0 1) a1).bind fun q3 => if q3 = 0 then (s108_8 μ a0 a1 a2) else ((s132 μ a2).bind fun q5 => if ¬ q5 = 0 then ((s36 μ (mP μ a0 1) a1 a2).bind fun q7 => some q7) else (s108_8 μ a0 a1 a2)) else none else none
set_option maxRecDepth 20000 in
theorem t108 {μ : mM} {a0 : Nat} {a1 : Int32} {a2 : Int32} {o : Int32} (hr : s108 μ a0 a1 a2 = some o) : mEv mG 108 [.ref a0, .int a1, .int a2] μ (some (.int o)) (μ) := by
  obtain ⟨r, hC⟩ : ∃ r : Option Value × mM, r = (some (.int o), μ) := ⟨_, rfl⟩
  show mGo mG (108, List.drop 0 mC108, [.ref a0, .int a1, .int a2], [], μ) (some (.int o), μ)
  rw [← hC]
  unfold s108 at hr
  refine mGo.steps 1 (c' := (108, List.drop 1 mC108, [.ref a0, .int a1, .int a2], [.ref a0], μ)) rfl ?_
  obtain ⟨h1, hr⟩ := mIf hr
  refine gGet (is := List.drop 2 mC108) (v := .ref (mP μ a0 1)) h1 rfl ?_
  refine mGo.steps 1 (c' := (108, List.drop 3 mC108, [.ref a0, .int a1, .int a2], [.int a1, .ref (mP μ a0 1)], μ)) rfl ?_
  obtain ⟨h2, hr⟩ := mIf hr
  obtain ⟨q3, h4, hr⟩ := mBi hr
  refine gCall (z := 15) (n := 1) (f := 0) (kind := 1) (a := (mP μ a0 1)) (As := [.int a1]) (y := 108) (is := List.drop 4 mC108) (L := [.ref a0, .int a1, .int a2]) (rest := []) (μ := μ) rfl (by decide) (by decide) ⟨rfl, rfl⟩ rfl h2 (Nat.le_of_ble_eq_true rfl) (Nat.le_of_ble_eq_true rfl) (t15 h4) ?_
  rcases mIte hr with ⟨h10, hr⟩ | ⟨h10, hr⟩
  · refine gBrT (p := q3 = 0) (y := 108) (is := List.drop 5 mC108) (L := [.ref a0, .int a1, .int a2]) (st := []) (μ := μ) (t := 18) rfl h10 ?_
    exact t108_8 μ a0 a1 a2 (.ref a0) rfl (.int a1) rfl (.int a2) rfl hr hC
  · refine gBrF (p := q3 = 0) (y := 108) (is := List.drop 5 mC108) (L := [.ref a0, .int a1, .int a2]) (st := []) (μ := μ) (t := 18) rfl h10 ?_
    refine mGo.steps 1 (c' := (108, List.drop 6 mC108, [.ref a0, .int a1, .int a2], [.int a2], μ)) rfl ?_
    obtain ⟨q5, h6, hr⟩ := mBi hr
    refine mGo.call (z := 132) (as := [.int a2]) (y := 108) (is := List.drop 7 mC108) (L := [.ref a0, .int a1, .int a2]) (st := []) (μ := μ) rfl (t132 h6) ?_
    rcases mIte hr with ⟨h9, hr⟩ | ⟨h9, hr⟩
    · refine gBrT (p := ¬ q5 = 0) (y := 108) (is := List.drop 8 mC108) (L := [.ref a0, .int a1, .int a2]) (st := []) (μ := μ) (t := 20) rfl h9 ?_
      refine mGo.steps 1 (c' := (108, List.drop 11 mC108, [.ref a0, .int a1, .int a2], [.ref a0], μ)) rfl ?_
      refine gGet (is := List.drop 12 mC108) (v := .ref (mP μ a0 1)) h1 rfl ?_
      refine mGo.steps 2 (c' := (108, List.drop 14 mC108, [.ref a0, .int a1, .int a2], [.int a2, .int a1, .ref (mP μ a0 1)], μ)) rfl ?_
      obtain ⟨q7, h8, hr⟩ := mBi hr
      refine gCall (z := 36) (n := 2) (f := 0) (kind := 1) (a := (mP μ a0 1)) (As := [.int a1, .int a2]) (y := 108) (is := List.drop 15 mC108) (L := [.ref a0, .int a1, .int a2]) (rest := []) (μ := μ) rfl (by decide) (by decide) ⟨rfl, rfl⟩ rfl h2 (Nat.le_of_ble_eq_true rfl) (Nat.le_of_ble_eq_true rfl) (t36 h8) ?_
      obtain rfl := Option.some.inj hr
      rw [show r = _ from hC]
      exact gIret rfl
    · refine gBrF (p := ¬ q5 = 0) (y := 108) (is := List.drop 8 mC108) (L := [.ref a0, .int a1, .int a2]) (st := []) (μ := μ) (t := 20) rfl h9 ?_
      exact t108_8 μ a0 a1 a2 (.ref a0) rfl (.int a1) rfl (.int a2) rfl hr hC

/-! 142: TunnelFabric.bitsOf(F)I -/
def s142L10 (μ : mM) (s : UInt32 × Int32) : Option ((UInt32 × Int32) ⊕ ((UInt32 × Int32) ⊕ Int32)) :=
  if (Op.cmpValue (FP.fcmp s.1 FP.fconst2) CmpOp.l) < 0 then (some (.inr (.inl (s.1, s.2)))) else (if 254 ≤ s.2 then (some (.inr (.inl (s.1, s.2)))) else (if FP.fdiv s.1 FP.fconst2 &&& 0x7fffffff ≤ 0x7f800000 then some (.inl (FP.fdiv s.1 FP.fconst2, s.2 + 1)) else none))
set_option maxRecDepth 20000 in
theorem t142L10 (μ : mM) {r : Option Value × mM} (s : UInt32 × Int32) (o : ((UInt32 × Int32) ⊕ ((UInt32 × Int32) ⊕ Int32))) (hr : s142L10 μ s = some o) (hC : Sum.elim (fun s' : UInt32 × Int32 => ∀ (w0 : Value) (hw0 : mNotL w0 = true), mGo mG (142, List.drop 10 mC142, [w0, .float s'.1, .int s'.2], [], μ) r) (Sum.elim (fun x : UInt32 × Int32 => ∀ (w0 : Value) (hw0 : mNotL w0 = true), mGo mG (142, List.drop 23 mC142, [w0, .float x.1, .int x.2], [], μ) r) (fun y : Int32 => r = (some (.int y), μ))) o) : ∀ (w0 : Value) (hw0 : mNotL w0 = true), mGo mG (142, List.drop 10 mC142, [w0, .float s.1, .int s.2], [], μ) r := by
  intro w0 hw0
  unfold s142L10 at hr
  refine mGo.steps 3 (c' := (142, List.drop 13 mC142, [w0, .float s.1, .int s.2], [.int (Op.cmpValue (FP.fcmp s.1 FP.fconst2) CmpOp.l)], μ)) rfl ?_
  rcases mIte hr with ⟨h3, hr⟩ | ⟨h3, hr⟩
  · refine gBrT (p := (Op.cmpValue (FP.fcmp s.1 FP.fconst2) CmpOp.l) < 0) (y := 142) (is := List.drop 14 mC142) (L := [w0, .float s.1, .int s.2]) (st := []) (μ := μ) (t := 36) rfl h3 ?_
    obtain rfl := Option.some.inj hr
    exact hC w0 hw0
  · refine gBrF (p := (Op.cmpValue (FP.fcmp s.1 FP.fconst2) CmpOp.l) < 0) (y := 142) (is := List.drop 14 mC142) (L := [w0, .float s.1, .int s.2]) (st := []) (μ := μ) (t := 36) rfl h3 ?_
    refine mGo.steps 2 (c' := (142, List.drop 16 mC142, [w0, .float s.1, .int s.2], [.int 254, .int s.2], μ)) rfl ?_
    rcases mIte hr with ⟨h2, hr⟩ | ⟨h2, hr⟩
    · refine gBrT (p := 254 ≤ s.2) (y := 142) (is := List.drop 17 mC142) (L := [w0, .float s.1, .int s.2]) (st := []) (μ := μ) (t := 36) rfl h2 ?_
      obtain rfl := Option.some.inj hr
      exact hC w0 hw0
    · refine gBrF (p := 254 ≤ s.2) (y := 142) (is := List.drop 17 mC142) (L := [w0, .float s.1, .int s.2]) (st := []) (μ := μ) (t := 36) rfl h2 ?_
      refine mGo.steps 2 (c' := (142, List.drop 19 mC142, [w0, .float s.1, .int s.2], [.float FP.fconst2, .float s.1], μ)) rfl ?_
      obtain ⟨h1, hr⟩ := mIf hr
      refine gFdiv (is := List.drop 20 mC142) h1 ?_
      refine gSt1 (L := [w0, .float s.1, .int s.2]) (q := 1) (w := .float (FP.fdiv s.1 FP.fconst2)) (is := List.drop 21 mC142) (st := []) (μ := μ) rfl (Nat.le_of_ble_eq_true rfl) hw0 ?_
      refine mGo.steps 2 (c' := (142, List.drop 10 mC142, [w0, .float (FP.fdiv s.1 FP.fconst2), .int (s.2 + 1)], [], μ)) rfl ?_
      obtain rfl := Option.some.inj hr
      exact hC w0 hw0
theorem t142L10l (μ : mM) {r : Option Value × mM} (n : Nat) (s : UInt32 × Int32) (o : (UInt32 × Int32) ⊕ Int32) (hr : mLoop (s142L10 μ) n s = some o) (hC : Sum.elim (fun x : UInt32 × Int32 => ∀ (w0 : Value) (hw0 : mNotL w0 = true), mGo mG (142, List.drop 23 mC142, [w0, .float x.1, .int x.2], [], μ) r) (fun y : Int32 => r = (some (.int y), μ)) o) : ∀ (w0 : Value) (hw0 : mNotL w0 = true), mGo mG (142, List.drop 10 mC142, [w0, .float s.1, .int s.2], [], μ) r :=
  mLoop_go (Hd := (fun s' : UInt32 × Int32 => ∀ (w0 : Value) (hw0 : mNotL w0 = true), mGo mG (142, List.drop 10 mC142, [w0, .float s'.1, .int s'.2], [], μ) r)) (fun s o hb hC => t142L10 μ s o hb hC) n s o hr hC
def s142L23 (μ : mM) (s : UInt32 × Int32) : Option ((UInt32 × Int32) ⊕ ((UInt32 × Int32) ⊕ Int32)) :=
  if 0 ≤ (Op.cmpValue (FP.fcmp s.1 FP.fconst1) CmpOp.g) then (some (.inr (.inl (s.1, s.2)))) else (if s.2 ≤ 1 then (some (.inr (.inl (s.1, s.2)))) else (if FP.fmul s.1 FP.fconst2 &&& 0x7fffffff ≤ 0x7f800000 then some (.inl (FP.fmul s.1 FP.fconst2, s.2 + (-1))) else none))
set_option maxRecDepth 20000 in
theorem t142L23 (μ : mM) {r : Option Value × mM} (s : UInt32 × Int32) (o : ((UInt32 × Int32) ⊕ ((UInt32 × Int32) ⊕ Int32))) (hr : s142L23 μ s = some o) (hC : Sum.elim (fun s' : UInt32 × Int32 => ∀ (w0 : Value) (hw0 : mNotL w0 = true), mGo mG (142, List.drop 23 mC142, [w0, .float s'.1, .int s'.2], [], μ) r) (Sum.elim (fun x : UInt32 × Int32 => ∀ (w0 : Value) (hw0 : mNotL w0 = true), mGo mG (142, List.drop 36 mC142, [w0, .float x.1, .int x.2], [], μ) r) (fun y : Int32 => r = (some (.int y), μ))) o) : ∀ (w0 : Value) (hw0 : mNotL w0 = true), mGo mG (142, List.drop 23 mC142, [w0, .float s.1, .int s.2], [], μ) r := by
  intro w0 hw0
  unfold s142L23 at hr
  refine mGo.steps 3 (c' := (142, List.drop 26 mC142, [w0, .float s.1, .int s.2], [.int (Op.cmpValue (FP.fcmp s.1 FP.fconst1) CmpOp.g)], μ)) rfl ?_
  rcases mIte hr with ⟨h10, hr⟩ | ⟨h10, hr⟩
  · refine gBrT (p := 0 ≤ (Op.cmpValue (FP.fcmp s.1 FP.fconst1) CmpOp.g)) (y := 142) (is := List.drop 27 mC142) (L := [w0, .float s.1, .int s.2]) (st := []) (μ := μ) (t := 57) rfl h10 ?_
    obtain rfl := Option.some.inj hr
    exact hC w0 hw0
  · refine gBrF (p := 0 ≤ (Op.cmpValue (FP.fcmp s.1 FP.fconst1) CmpOp.g)) (y := 142) (is := List.drop 27 mC142) (L := [w0, .float s.1, .int s.2]) (st := []) (μ := μ) (t := 57) rfl h10 ?_
    refine mGo.steps 2 (c' := (142, List.drop 29 mC142, [w0, .float s.1, .int s.2], [.int 1, .int s.2], μ)) rfl ?_
    rcases mIte hr with ⟨h9, hr⟩ | ⟨h9, hr⟩
    · refine gBrT (p := s.2 ≤ 1) (y := 142) (is := List.drop 30 mC142) (L := [w0, .float s.1, .int s.2]) (st := []) (μ := μ) (t := 57) rfl h9 ?_
      obtain rfl := Option.some.inj hr
      exact hC w0 hw0
    · refine gBrF (p := s.2 ≤ 1) (y := 142) (is := List.drop 30 mC142) (L := [w0, .float s.1, .int s.2]) (st := []) (μ := μ) (t := 57) rfl h9 ?_
      refine mGo.steps 2 (c' := (142, List.drop 32 mC142, [w0, .float s.1, .int s.2], [.float FP.fconst2, .float s.1], μ)) rfl ?_
      obtain ⟨h8, hr⟩ := mIf hr
      refine gFmul (is := List.drop 33 mC142) h8 ?_
      refine gSt1 (L := [w0, .float s.1, .int s.2]) (q := 1) (w := .float (FP.fmul s.1 FP.fconst2)) (is := List.drop 34 mC142) (st := []) (μ := μ) rfl (Nat.le_of_ble_eq_true rfl) hw0 ?_
      refine mGo.steps 2 (c' := (142, List.drop 23 mC142, [w0, .float (FP.fmul s.1 FP.fconst2), .int (s.2 + (-1))], [], μ)) rfl ?_
      obtain rfl := Option.some.inj hr
      exact hC w0 hw0
theorem t142L23l (μ : mM) {r : Option Value × mM} (n : Nat) (s : UInt32 × Int32) (o : (UInt32 × Int32) ⊕ Int32) (hr : mLoop (s142L23 μ) n s = some o) (hC : Sum.elim (fun x : UInt32 × Int32 => ∀ (w0 : Value) (hw0 : mNotL w0 = true), mGo mG (142, List.drop 36 mC142, [w0, .float x.1, .int x.2], [], μ) r) (fun y : Int32 => r = (some (.int y), μ)) o) : ∀ (w0 : Value) (hw0 : mNotL w0 = true), mGo mG (142, List.drop 23 mC142, [w0, .float s.1, .int s.2], [], μ) r :=
  mLoop_go (Hd := (fun s' : UInt32 × Int32 => ∀ (w0 : Value) (hw0 : mNotL w0 = true), mGo mG (142, List.drop 23 mC142, [w0, .float s'.1, .int s'.2], [], μ) r)) (fun s o hb hC => t142L23 μ s o hb hC) n s o hr hC
def s142_36 (μ : mM) (a0 : UInt32) (v1 : UInt32) (v2 : Int32) : Option Int32 :=
  if FP.fmul v1 (UInt32.ofNat 1258291200) &&& 0x7fffffff ≤ 0x7f800000 then some (((v2 - 1) <<< (23 &&& 31)) + (FP.f2i (FP.fmul v1 (UInt32.ofNat 1258291200)))) else none
set_option maxRecDepth 20000 in
theorem t142_36 (μ : mM) (a0 : UInt32) (v1 : UInt32) (v2 : Int32) (w0 : Value) (hw0 : mNotL w0 = true) {o : Int32} {r : Option Value × mM} (hr : s142_36 μ a0 v1 v2 = some o) (hC : r = (some (.int o), μ)) : mGo mG (142, List.drop 36 mC142, [w0, .float v1, .int v2], [], μ) r := by
  unfold s142_36 at hr
  refine mGo.steps 7 (c' := (142, List.drop 43 mC142, [w0, .float v1, .int v2], [.float (UInt32.ofNat 1258291200), .float v1, .int ((v2 - 1) <<< (23 &&& 31))], μ)) rfl ?_
  obtain ⟨h15, hr⟩ := mIf hr
  refine gFmul (is := List.drop 44 mC142) h15 ?_
  refine mGo.steps 2 (c' := (142, List.drop 46 mC142, [w0, .float v1, .int v2], [.int (((v2 - 1) <<< (23 &&& 31)) + (FP.f2i (FP.fmul v1 (UInt32.ofNat 1258291200))))], μ)) rfl ?_
  obtain rfl := Option.some.inj hr
  rw [show r = _ from hC]
  exact gIret rfl
def s142 (μ : mM) (a0 : UInt32) : Option Int32 :=
  if 0 < (Op.cmpValue (FP.fcmp a0 FP.fconst0) CmpOp.g) then ((mLoop (s142L10 μ) 1000 (a0, 127)).bind fun o4 => Sum.elim (fun x5 => (mLoop (s142L23 μ) 1000 (x5.1, x5.2)).bind fun o11 => Sum.elim (fun x12 => s142_36 μ a0 x12.1 x12.2) (fun y13 => some y13) o11) (fun y6 => some y6) o4) else (some 0)
set_option maxRecDepth 20000 in
theorem t142 {μ : mM} {a0 : UInt32} {o : Int32} (hr : s142 μ a0 = some o) : mEv mG 142 [.float a0] μ (some (.int o)) (μ) := by
  obtain ⟨r, hC⟩ : ∃ r : Option Value × mM, r = (some (.int o), μ) := ⟨_, rfl⟩
  show mGo mG (142, List.drop 0 mC142, [.float a0, .retAddr 0, .retAddr 0], [], μ) (some (.int o), μ)
  rw [← hC]
  unfold s142 at hr
  refine mGo.steps 3 (c' := (142, List.drop 3 mC142, [.float a0, .retAddr 0, .retAddr 0], [.int (Op.cmpValue (FP.fcmp a0 FP.fconst0) CmpOp.g)], μ)) rfl ?_
  rcases mIte hr with ⟨h16, hr⟩ | ⟨h16, hr⟩
  · refine gBrT (p := 0 < (Op.cmpValue (FP.fcmp a0 FP.fconst0) CmpOp.g)) (y := 142) (is := List.drop 4 mC142) (L := [.float a0, .retAddr 0, .retAddr 0]) (st := []) (μ := μ) (t := 8) rfl h16 ?_
    refine mGo.steps 4 (c' := (142, List.drop 10 mC142, [.float a0, .float a0, .int 127], [], μ)) rfl ?_
    obtain ⟨o4, h7, hr⟩ := mBi hr
    refine t142L10l μ 1000 (a0, 127) o4 h7 ?_ (.float a0) rfl
    cases o4 with
    | inl x5 =>
      show ∀ (w0 : Value) (hw0 : mNotL w0 = true), mGo mG (142, List.drop 23 mC142, [w0, .float x5.1, .int x5.2], [], μ) r
      intro w0 hw0
      replace hr : (_) = some _ := hr
      obtain ⟨o11, h14, hr⟩ := mBi hr
      refine t142L23l μ 1000 (x5.1, x5.2) o11 h14 ?_ w0 hw0
      cases o11 with
      | inl x12 =>
        show ∀ (w0 : Value) (hw0 : mNotL w0 = true), mGo mG (142, List.drop 36 mC142, [w0, .float x12.1, .int x12.2], [], μ) r
        intro w0 hw0
        replace hr : (_) = some _ := hr
        exact t142_36 μ a0 x12.1 x12.2 w0 hw0 hr hC
      | inr y13 =>
        obtain rfl := Option.some.inj hr
        exact hC
    | inr y6 =>
      obtain rfl := Option.some.inj hr
      exact hC
  · refine gBrF (p := 0 < (Op.cmpValue (FP.fcmp a0 FP.fconst0) CmpOp.g)) (y := 142) (is := List.drop 4 mC142) (L := [.float a0, .retAddr 0, .retAddr 0]) (st := []) (μ := μ) (t := 8) rfl h16 ?_
    refine mGo.steps 1 (c' := (142, List.drop 5 mC142, [.float a0, .retAddr 0, .retAddr 0], [.int 0], μ)) rfl ?_
    obtain rfl := Option.some.inj hr
    rw [show r = _ from hC]
    exact gIret rfl

/-! 109: TunnelFabric.load(II)I -/
def s109_8 (μ : mM) (a0 : Nat) (a1 : Int32) (a2 : Int32) : Option Int32 :=
  some (-1)
set_option maxRecDepth 20000 in
theorem t109_8 (μ : mM) (a0 : Nat) (a1 : Int32) (a2 : Int32) (w0 : Value) (hw0 : mNotL w0 = true) (w1 : Value) (hw1 : mNotL w1 = true) (w2 : Value) (hw2 : mNotL w2 = true) {o : Int32} {r : Option Value × mM} (hr : s109_8 μ a0 a1 a2 = some o) (hC : r = (some (.int o), μ)) : mGo mG (109, List.drop 8 mC109, [w0, w1, w2], [], μ) r := by
  unfold s109_8 at hr
  refine mGo.steps 1 (c' := (109, List.drop 9 mC109, [w0, w1, w2], [.int (-1)], μ)) rfl ?_
  obtain rfl := Option.some.inj hr
  rw [show r = _ from hC]
  exact gIret rfl
def s109 (μ : mM) (a0 : Nat) (a1 : Int32) (a2 : Int32) : Option Int32 :=
  if (mS μ a0).1 = 8 then if (mS μ (mP μ a0 1)).1 = 1 then (s15 μ (mP μ a0 1) a1).bind fun q3 => if q3 = 0 then (s109_8 μ a0 a1 a2) else ((s132 μ a2).bind fun q5 => if ¬ q5 = 0 then ((s18 μ (mP μ a0 1) a1).bind fun q7 => if (mS μ q7).1 = 4 then if (mS μ (mP μ q7 6)).1 = 2 then if (mS μ (mP μ (mP μ q7 6) 8)).1 = 11 ∧ mInb a2 (mS μ (mP μ (mP μ q7 6) 8)).2 then (s142 μ (mF μ (mP μ (mP μ q7 6) 8) (Int32.toNatClampNeg a2))).bind fun q12 => some q12 else none else none else none) else (s109_8 μ a0 a1 a2)) else none else none
set_option maxRecDepth 20000 in
theorem t109 {μ : mM} {a0 : Nat} {a1 : Int32} {a2 : Int32} {o : Int32} (hr : s109 μ a0 a1 a2 = some o) : mEv mG 109 [.ref a0, .int a1, .int a2] μ (some (.int o)) (μ) := by
  obtain ⟨r, hC⟩ : ∃ r : Option Value × mM, r = (some (.int o), μ) := ⟨_, rfl⟩
  show mGo mG (109, List.drop 0 mC109, [.ref a0, .int a1, .int a2], [], μ) (some (.int o), μ)
  rw [← hC]
  unfold s109 at hr
  refine mGo.steps 1 (c' := (109, List.drop 1 mC109, [.ref a0, .int a1, .int a2], [.ref a0], μ)) rfl ?_
  obtain ⟨h1, hr⟩ := mIf hr
  refine gGet (is := List.drop 2 mC109) (v := .ref (mP μ a0 1)) h1 rfl ?_
  refine mGo.steps 1 (c' := (109, List.drop 3 mC109, [.ref a0, .int a1, .int a2], [.int a1, .ref (mP μ a0 1)], μ)) rfl ?_
  obtain ⟨h2, hr⟩ := mIf hr
  obtain ⟨q3, h4, hr⟩ := mBi hr
  refine gCall (z := 15) (n := 1) (f := 0) (kind := 1) (a := (mP μ a0 1)) (As := [.int a1]) (y := 109) (is := List.drop 4 mC109) (L := [.ref a0, .int a1, .int a2]) (rest := []) (μ := μ) rfl (by decide) (by decide) ⟨rfl, rfl⟩ rfl h2 (Nat.le_of_ble_eq_true rfl) (Nat.le_of_ble_eq_true rfl) (t15 h4) ?_
  rcases mIte hr with ⟨h15, hr⟩ | ⟨h15, hr⟩
  · refine gBrT (p := q3 = 0) (y := 109) (is := List.drop 5 mC109) (L := [.ref a0, .int a1, .int a2]) (st := []) (μ := μ) (t := 18) rfl h15 ?_
    exact t109_8 μ a0 a1 a2 (.ref a0) rfl (.int a1) rfl (.int a2) rfl hr hC
  · refine gBrF (p := q3 = 0) (y := 109) (is := List.drop 5 mC109) (L := [.ref a0, .int a1, .int a2]) (st := []) (μ := μ) (t := 18) rfl h15 ?_
    refine mGo.steps 1 (c' := (109, List.drop 6 mC109, [.ref a0, .int a1, .int a2], [.int a2], μ)) rfl ?_
    obtain ⟨q5, h6, hr⟩ := mBi hr
    refine mGo.call (z := 132) (as := [.int a2]) (y := 109) (is := List.drop 7 mC109) (L := [.ref a0, .int a1, .int a2]) (st := []) (μ := μ) rfl (t132 h6) ?_
    rcases mIte hr with ⟨h14, hr⟩ | ⟨h14, hr⟩
    · refine gBrT (p := ¬ q5 = 0) (y := 109) (is := List.drop 8 mC109) (L := [.ref a0, .int a1, .int a2]) (st := []) (μ := μ) (t := 20) rfl h14 ?_
      refine mGo.steps 1 (c' := (109, List.drop 11 mC109, [.ref a0, .int a1, .int a2], [.ref a0], μ)) rfl ?_
      refine gGet (is := List.drop 12 mC109) (v := .ref (mP μ a0 1)) h1 rfl ?_
      refine mGo.steps 1 (c' := (109, List.drop 13 mC109, [.ref a0, .int a1, .int a2], [.int a1, .ref (mP μ a0 1)], μ)) rfl ?_
      obtain ⟨q7, h8, hr⟩ := mBi hr
      refine gCall (z := 18) (n := 1) (f := 0) (kind := 1) (a := (mP μ a0 1)) (As := [.int a1]) (y := 109) (is := List.drop 14 mC109) (L := [.ref a0, .int a1, .int a2]) (rest := []) (μ := μ) rfl (by decide) (by decide) ⟨rfl, rfl⟩ rfl h2 (Nat.le_of_ble_eq_true rfl) (Nat.le_of_ble_eq_true rfl) (t18 h8) ?_
      obtain ⟨h9, hr⟩ := mIf hr
      refine gGet (is := List.drop 15 mC109) (v := .ref (mP μ q7 6)) h9 rfl ?_
      obtain ⟨h10, hr⟩ := mIf hr
      refine gGet (is := List.drop 16 mC109) (v := .ref (mP μ (mP μ q7 6) 8)) h10 rfl ?_
      refine mGo.steps 1 (c' := (109, List.drop 17 mC109, [.ref a0, .int a1, .int a2], [.int a2, .ref (mP μ (mP μ q7 6) 8)], μ)) rfl ?_
      obtain ⟨h11, hr⟩ := mIf hr
      refine gFald (is := List.drop 18 mC109) h11 ?_
      obtain ⟨q12, h13, hr⟩ := mBi hr
      refine mGo.call (z := 142) (as := [.float (mF μ (mP μ (mP μ q7 6) 8) (Int32.toNatClampNeg a2))]) (y := 109) (is := List.drop 19 mC109) (L := [.ref a0, .int a1, .int a2]) (st := []) (μ := μ) rfl (t142 h13) ?_
      obtain rfl := Option.some.inj hr
      rw [show r = _ from hC]
      exact gIret rfl
    · refine gBrF (p := ¬ q5 = 0) (y := 109) (is := List.drop 8 mC109) (L := [.ref a0, .int a1, .int a2]) (st := []) (μ := μ) (t := 20) rfl h14 ?_
      exact t109_8 μ a0 a1 a2 (.ref a0) rfl (.int a1) rfl (.int a2) rfl hr hC

/-! 110: TunnelFabric.open(III)I -/
def s110_15 (a0 : Nat) (a1 : Int32) (a2 : Int32) (a3 : Int32) (μ : mM) : Option (Int32 × mM) :=
  some ((-1), μ)
set_option maxRecDepth 20000 in
theorem t110_15 (a0 : Nat) (a1 : Int32) (a2 : Int32) (a3 : Int32) (μ : mM) (w0 : Value) (hw0 : mNotL w0 = true) (w1 : Value) (hw1 : mNotL w1 = true) (w2 : Value) (hw2 : mNotL w2 = true) (w3 : Value) (hw3 : mNotL w3 = true) (w4 : Value) (hw4 : mNotL w4 = true) {o : (Int32 × mM)} {r : Option Value × mM} (hr : s110_15 a0 a1 a2 a3 μ = some o) (hC : r = (some (.int o.1), o.2)) : mGo mG (110, List.drop 15 mC110, [w0, w1, w2, w3, w4], [], μ) r := by
  unfold s110_15 at hr
  refine mGo.steps 1 (c' := (110, List.drop 16 mC110, [w0, w1, w2, w3, w4], [.int (-1)], μ)) rfl ?_
  obtain rfl := Option.some.inj hr
  rw [show r = _ from hC]
  exact gIret rfl
def s110_33 (a0 : Nat) (a1 : Int32) (a2 : Int32) (a3 : Int32) (μ : mM) (t0 : Int32) : Option (Int32 × mM) :=
  some (t0, μ)
set_option maxRecDepth 20000 in
theorem t110_33 (a0 : Nat) (a1 : Int32) (a2 : Int32) (a3 : Int32) (μ : mM) (t0 : Int32) (w0 : Value) (hw0 : mNotL w0 = true) (w1 : Value) (hw1 : mNotL w1 = true) (w2 : Value) (hw2 : mNotL w2 = true) (w3 : Value) (hw3 : mNotL w3 = true) (w4 : Value) (hw4 : mNotL w4 = true) {o : (Int32 × mM)} {r : Option Value × mM} (hr : s110_33 a0 a1 a2 a3 μ t0 = some o) (hC : r = (some (.int o.1), o.2)) : mGo mG (110, List.drop 33 mC110, [w0, w1, w2, w3, w4], [.int t0], μ) r := by
  unfold s110_33 at hr
  obtain rfl := Option.some.inj hr
  rw [show r = _ from hC]
  exact gIret rfl
def s110 (μ : mM) (a0 : Nat) (a1 : Int32) (a2 : Int32) (a3 : Int32) : Option (Int32 × mM) :=
  (s131 μ a1 0 2).bind fun q1 => if q1 = 0 then (s110_15 a0 a1 a2 a3 μ) else (if (mS μ a0).1 = 8 then if (mS μ (mP μ a0 1)).1 = 1 then (s14 μ (mP μ a0 1) a2).bind fun q5 => if q5 = 0 then (s110_15 a0 a1 a2 a3 μ) else ((s131 μ a3 1 12).bind fun q7 => if ¬ q7 = 0 then ((s39 μ (mP μ a0 1) a1 a2).bind fun q9 => if ¬ q9 = 0 then (s110_33 a0 a1 a2 a3 μ q9) else ((s43 μ (mP μ a0 1) a1 a2 a3).bind fun q11 => s110_33 a0 a1 a2 a3 q11.2 q11.1)) else (s110_15 a0 a1 a2 a3 μ)) else none else none)
set_option maxRecDepth 20000 in
theorem t110 {μ : mM} {a0 : Nat} {a1 : Int32} {a2 : Int32} {a3 : Int32} {o : (Int32 × mM)} (hr : s110 μ a0 a1 a2 a3 = some o) : mEv mG 110 [.ref a0, .int a1, .int a2, .int a3] μ (some (.int o.1)) (o.2) := by
  obtain ⟨r, hC⟩ : ∃ r : Option Value × mM, r = (some (.int o.1), o.2) := ⟨_, rfl⟩
  show mGo mG (110, List.drop 0 mC110, [.ref a0, .int a1, .int a2, .int a3, .retAddr 0], [], μ) (some (.int o.1), o.2)
  rw [← hC]
  unfold s110 at hr
  refine mGo.steps 3 (c' := (110, List.drop 3 mC110, [.ref a0, .int a1, .int a2, .int a3, .retAddr 0], [.int 2, .int 0, .int a1], μ)) rfl ?_
  obtain ⟨q1, h2, hr⟩ := mBi hr
  refine mGo.call (z := 131) (as := [.int a1, .int 0, .int 2]) (y := 110) (is := List.drop 4 mC110) (L := [.ref a0, .int a1, .int a2, .int a3, .retAddr 0]) (st := []) (μ := μ) rfl (t131 h2) ?_
  rcases mIte hr with ⟨h16, hr⟩ | ⟨h16, hr⟩
  · refine gBrT (p := q1 = 0) (y := 110) (is := List.drop 5 mC110) (L := [.ref a0, .int a1, .int a2, .int a3, .retAddr 0]) (st := []) (μ := μ) (t := 30) rfl h16 ?_
    exact t110_15 a0 a1 a2 a3 μ (.ref a0) rfl (.int a1) rfl (.int a2) rfl (.int a3) rfl (.retAddr 0) rfl hr hC
  · refine gBrF (p := q1 = 0) (y := 110) (is := List.drop 5 mC110) (L := [.ref a0, .int a1, .int a2, .int a3, .retAddr 0]) (st := []) (μ := μ) (t := 30) rfl h16 ?_
    refine mGo.steps 1 (c' := (110, List.drop 6 mC110, [.ref a0, .int a1, .int a2, .int a3, .retAddr 0], [.ref a0], μ)) rfl ?_
    obtain ⟨h3, hr⟩ := mIf hr
    refine gGet (is := List.drop 7 mC110) (v := .ref (mP μ a0 1)) h3 rfl ?_
    refine mGo.steps 1 (c' := (110, List.drop 8 mC110, [.ref a0, .int a1, .int a2, .int a3, .retAddr 0], [.int a2, .ref (mP μ a0 1)], μ)) rfl ?_
    obtain ⟨h4, hr⟩ := mIf hr
    obtain ⟨q5, h6, hr⟩ := mBi hr
    refine gCall (z := 14) (n := 1) (f := 0) (kind := 1) (a := (mP μ a0 1)) (As := [.int a2]) (y := 110) (is := List.drop 9 mC110) (L := [.ref a0, .int a1, .int a2, .int a3, .retAddr 0]) (rest := []) (μ := μ) rfl (by decide) (by decide) ⟨rfl, rfl⟩ rfl h4 (Nat.le_of_ble_eq_true rfl) (Nat.le_of_ble_eq_true rfl) (t14 h6) ?_
    rcases mIte hr with ⟨h15, hr⟩ | ⟨h15, hr⟩
    · refine gBrT (p := q5 = 0) (y := 110) (is := List.drop 10 mC110) (L := [.ref a0, .int a1, .int a2, .int a3, .retAddr 0]) (st := []) (μ := μ) (t := 30) rfl h15 ?_
      exact t110_15 a0 a1 a2 a3 μ (.ref a0) rfl (.int a1) rfl (.int a2) rfl (.int a3) rfl (.retAddr 0) rfl hr hC
    · refine gBrF (p := q5 = 0) (y := 110) (is := List.drop 10 mC110) (L := [.ref a0, .int a1, .int a2, .int a3, .retAddr 0]) (st := []) (μ := μ) (t := 30) rfl h15 ?_
      refine mGo.steps 3 (c' := (110, List.drop 13 mC110, [.ref a0, .int a1, .int a2, .int a3, .retAddr 0], [.int 12, .int 1, .int a3], μ)) rfl ?_
      obtain ⟨q7, h8, hr⟩ := mBi hr
      refine mGo.call (z := 131) (as := [.int a3, .int 1, .int 12]) (y := 110) (is := List.drop 14 mC110) (L := [.ref a0, .int a1, .int a2, .int a3, .retAddr 0]) (st := []) (μ := μ) rfl (t131 h8) ?_
      rcases mIte hr with ⟨h14, hr⟩ | ⟨h14, hr⟩
      · refine gBrT (p := ¬ q7 = 0) (y := 110) (is := List.drop 15 mC110) (L := [.ref a0, .int a1, .int a2, .int a3, .retAddr 0]) (st := []) (μ := μ) (t := 32) rfl h14 ?_
        refine mGo.steps 1 (c' := (110, List.drop 18 mC110, [.ref a0, .int a1, .int a2, .int a3, .retAddr 0], [.ref a0], μ)) rfl ?_
        refine gGet (is := List.drop 19 mC110) (v := .ref (mP μ a0 1)) h3 rfl ?_
        refine mGo.steps 2 (c' := (110, List.drop 21 mC110, [.ref a0, .int a1, .int a2, .int a3, .retAddr 0], [.int a2, .int a1, .ref (mP μ a0 1)], μ)) rfl ?_
        obtain ⟨q9, h10, hr⟩ := mBi hr
        refine gCall (z := 39) (n := 2) (f := 0) (kind := 1) (a := (mP μ a0 1)) (As := [.int a1, .int a2]) (y := 110) (is := List.drop 22 mC110) (L := [.ref a0, .int a1, .int a2, .int a3, .retAddr 0]) (rest := []) (μ := μ) rfl (by decide) (by decide) ⟨rfl, rfl⟩ rfl h4 (Nat.le_of_ble_eq_true rfl) (Nat.le_of_ble_eq_true rfl) (t39 h10) ?_
        refine mGo.steps 2 (c' := (110, List.drop 24 mC110, [.ref a0, .int a1, .int a2, .int a3, .int q9], [.int q9], μ)) rfl ?_
        rcases mIte hr with ⟨h13, hr⟩ | ⟨h13, hr⟩
        · refine gBrT (p := ¬ q9 = 0) (y := 110) (is := List.drop 25 mC110) (L := [.ref a0, .int a1, .int a2, .int a3, .int q9]) (st := []) (μ := μ) (t := 61) rfl h13 ?_
          refine mGo.steps 1 (c' := (110, List.drop 33 mC110, [.ref a0, .int a1, .int a2, .int a3, .int q9], [.int q9], μ)) rfl ?_
          exact t110_33 a0 a1 a2 a3 μ q9 (.ref a0) rfl (.int a1) rfl (.int a2) rfl (.int a3) rfl (.int q9) rfl hr hC
        · refine gBrF (p := ¬ q9 = 0) (y := 110) (is := List.drop 25 mC110) (L := [.ref a0, .int a1, .int a2, .int a3, .int q9]) (st := []) (μ := μ) (t := 61) rfl h13 ?_
          refine mGo.steps 1 (c' := (110, List.drop 26 mC110, [.ref a0, .int a1, .int a2, .int a3, .int q9], [.ref a0], μ)) rfl ?_
          refine gGet (is := List.drop 27 mC110) (v := .ref (mP μ a0 1)) h3 rfl ?_
          refine mGo.steps 3 (c' := (110, List.drop 30 mC110, [.ref a0, .int a1, .int a2, .int a3, .int q9], [.int a3, .int a2, .int a1, .ref (mP μ a0 1)], μ)) rfl ?_
          obtain ⟨q11, h12, hr⟩ := mBi hr
          refine gCall (z := 43) (n := 3) (f := 0) (kind := 1) (a := (mP μ a0 1)) (As := [.int a1, .int a2, .int a3]) (y := 110) (is := List.drop 31 mC110) (L := [.ref a0, .int a1, .int a2, .int a3, .int q9]) (rest := []) (μ := μ) rfl (by decide) (by decide) ⟨rfl, rfl⟩ rfl h4 (Nat.le_of_ble_eq_true rfl) (Nat.le_of_ble_eq_true rfl) (t43 h12) ?_
          refine mGo.steps 1 (c' := (110, List.drop 33 mC110, [.ref a0, .int a1, .int a2, .int a3, .int q9], [.int q11.1], q11.2)) rfl ?_
          exact t110_33 a0 a1 a2 a3 q11.2 q11.1 (.ref a0) rfl (.int a1) rfl (.int a2) rfl (.int a3) rfl (.int q9) rfl hr hC
      · refine gBrF (p := ¬ q7 = 0) (y := 110) (is := List.drop 15 mC110) (L := [.ref a0, .int a1, .int a2, .int a3, .retAddr 0]) (st := []) (μ := μ) (t := 32) rfl h14 ?_
        exact t110_15 a0 a1 a2 a3 μ (.ref a0) rfl (.int a1) rfl (.int a2) rfl (.int a3) rfl (.retAddr 0) rfl hr hC

/-! 111: TunnelFabric.close(I)I -/
def s111 (μ : mM) (a0 : Nat) (a1 : Int32) : Option (Int32 × mM) :=
  if (mS μ a0).1 = 8 then if (mS μ (mP μ a0 1)).1 = 1 then (s17 μ (mP μ a0 1) a1).bind fun q3 => if ¬ q3 = 0 then ((s50 μ (mP μ a0 1) a1).bind fun q5 => if (mS q5.2 a0).1 = 8 then if (mS q5.2 (mP q5.2 a0 1)).1 = 1 then (s34 q5.2 (mP q5.2 a0 1)).bind fun q9 => some (q5.1, q9) else none else none) else (some ((-1), μ)) else none else none
set_option maxRecDepth 20000 in
theorem t111 {μ : mM} {a0 : Nat} {a1 : Int32} {o : (Int32 × mM)} (hr : s111 μ a0 a1 = some o) : mEv mG 111 [.ref a0, .int a1] μ (some (.int o.1)) (o.2) := by
  obtain ⟨r, hC⟩ : ∃ r : Option Value × mM, r = (some (.int o.1), o.2) := ⟨_, rfl⟩
  show mGo mG (111, List.drop 0 mC111, [.ref a0, .int a1, .retAddr 0], [], μ) (some (.int o.1), o.2)
  rw [← hC]
  unfold s111 at hr
  refine mGo.steps 1 (c' := (111, List.drop 1 mC111, [.ref a0, .int a1, .retAddr 0], [.ref a0], μ)) rfl ?_
  obtain ⟨h1, hr⟩ := mIf hr
  refine gGet (is := List.drop 2 mC111) (v := .ref (mP μ a0 1)) h1 rfl ?_
  refine mGo.steps 1 (c' := (111, List.drop 3 mC111, [.ref a0, .int a1, .retAddr 0], [.int a1, .ref (mP μ a0 1)], μ)) rfl ?_
  obtain ⟨h2, hr⟩ := mIf hr
  obtain ⟨q3, h4, hr⟩ := mBi hr
  refine gCall (z := 17) (n := 1) (f := 0) (kind := 1) (a := (mP μ a0 1)) (As := [.int a1]) (y := 111) (is := List.drop 4 mC111) (L := [.ref a0, .int a1, .retAddr 0]) (rest := []) (μ := μ) rfl (by decide) (by decide) ⟨rfl, rfl⟩ rfl h2 (Nat.le_of_ble_eq_true rfl) (Nat.le_of_ble_eq_true rfl) (t17 h4) ?_
  rcases mIte hr with ⟨h11, hr⟩ | ⟨h11, hr⟩
  · refine gBrT (p := ¬ q3 = 0) (y := 111) (is := List.drop 5 mC111) (L := [.ref a0, .int a1, .retAddr 0]) (st := []) (μ := μ) (t := 13) rfl h11 ?_
    refine mGo.steps 1 (c' := (111, List.drop 8 mC111, [.ref a0, .int a1, .retAddr 0], [.ref a0], μ)) rfl ?_
    refine gGet (is := List.drop 9 mC111) (v := .ref (mP μ a0 1)) h1 rfl ?_
    refine mGo.steps 1 (c' := (111, List.drop 10 mC111, [.ref a0, .int a1, .retAddr 0], [.int a1, .ref (mP μ a0 1)], μ)) rfl ?_
    obtain ⟨q5, h6, hr⟩ := mBi hr
    refine gCall (z := 50) (n := 1) (f := 0) (kind := 1) (a := (mP μ a0 1)) (As := [.int a1]) (y := 111) (is := List.drop 11 mC111) (L := [.ref a0, .int a1, .retAddr 0]) (rest := []) (μ := μ) rfl (by decide) (by decide) ⟨rfl, rfl⟩ rfl h2 (Nat.le_of_ble_eq_true rfl) (Nat.le_of_ble_eq_true rfl) (t50 h6) ?_
    refine mGo.steps 2 (c' := (111, List.drop 13 mC111, [.ref a0, .int a1, .int q5.1], [.ref a0], q5.2)) rfl ?_
    obtain ⟨h7, hr⟩ := mIf hr
    refine gGet (is := List.drop 14 mC111) (v := .ref (mP q5.2 a0 1)) h7 rfl ?_
    obtain ⟨h8, hr⟩ := mIf hr
    obtain ⟨q9, h10, hr⟩ := mBi hr
    refine gCall (z := 34) (n := 0) (f := 0) (kind := 1) (a := (mP q5.2 a0 1)) (As := []) (y := 111) (is := List.drop 15 mC111) (L := [.ref a0, .int a1, .int q5.1]) (rest := []) (μ := q5.2) rfl (by decide) (by decide) ⟨rfl, rfl⟩ rfl h8 (Nat.le_of_ble_eq_true rfl) (Nat.le_of_ble_eq_true rfl) (t34 h10) ?_
    refine mGo.steps 1 (c' := (111, List.drop 16 mC111, [.ref a0, .int a1, .int q5.1], [.int q5.1], q9)) rfl ?_
    obtain rfl := Option.some.inj hr
    rw [show r = _ from hC]
    exact gIret rfl
  · refine gBrF (p := ¬ q3 = 0) (y := 111) (is := List.drop 5 mC111) (L := [.ref a0, .int a1, .retAddr 0]) (st := []) (μ := μ) (t := 13) rfl h11 ?_
    refine mGo.steps 1 (c' := (111, List.drop 6 mC111, [.ref a0, .int a1, .retAddr 0], [.int (-1)], μ)) rfl ?_
    obtain rfl := Option.some.inj hr
    rw [show r = _ from hC]
    exact gIret rfl

/-! 112: TunnelFabric.claim(II)I -/
def s112_10 (a0 : Nat) (a1 : Int32) (a2 : Int32) (μ : mM) : Option (Int32 × mM) :=
  some ((-1), μ)
set_option maxRecDepth 20000 in
theorem t112_10 (a0 : Nat) (a1 : Int32) (a2 : Int32) (μ : mM) (w0 : Value) (hw0 : mNotL w0 = true) (w1 : Value) (hw1 : mNotL w1 = true) (w2 : Value) (hw2 : mNotL w2 = true) (w3 : Value) (hw3 : mNotL w3 = true) {o : (Int32 × mM)} {r : Option Value × mM} (hr : s112_10 a0 a1 a2 μ = some o) (hC : r = (some (.int o.1), o.2)) : mGo mG (112, List.drop 10 mC112, [w0, w1, w2, w3], [], μ) r := by
  unfold s112_10 at hr
  refine mGo.steps 1 (c' := (112, List.drop 11 mC112, [w0, w1, w2, w3], [.int (-1)], μ)) rfl ?_
  obtain rfl := Option.some.inj hr
  rw [show r = _ from hC]
  exact gIret rfl
def s112 (μ : mM) (a0 : Nat) (a1 : Int32) (a2 : Int32) : Option (Int32 × mM) :=
  if (mS μ a0).1 = 8 then if (mS μ (mP μ a0 1)).1 = 1 then (s17 μ (mP μ a0 1) a1).bind fun q3 => if q3 = 0 then (s112_10 a0 a1 a2 μ) else ((s131 μ a2 1 12).bind fun q5 => if ¬ q5 = 0 then (if (mS μ (mP μ (mP μ a0 1) 1)).1 = 20 + 6 ∧ mInb a1 (mS μ (mP μ (mP μ a0 1) 1)).2 then if (mS μ (mP μ (mP μ (mP μ a0 1) 1) (Int32.toNatClampNeg a1))).1 = 6 then if (mI μ (mP μ (mP μ (mP μ a0 1) 1) (Int32.toNatClampNeg a1)) 1) = 0 then ((some (mUI μ (mP μ (mP μ (mP μ a0 1) 1) (Int32.toNatClampNeg a1)) 3 a2)).bind fun μ9 => (some (mUI μ9 (mP μ (mP μ (mP μ a0 1) 1) (Int32.toNatClampNeg a1)) 4 (mMin (mI μ9 (mP μ (mP μ (mP μ a0 1) 1) (Int32.toNatClampNeg a1)) 4) a2))).bind fun μ10 => if (mS μ10 (mP μ10 a0 1)).1 = 1 then (s34 μ10 (mP μ10 a0 1)).bind fun q12 => if (mS q12 (mP μ (mP μ (mP μ a0 1) 1) (Int32.toNatClampNeg a1))).1 = 6 then some (mI q12 (mP μ (mP μ (mP μ a0 1) 1) (Int32.toNatClampNeg a1)) 4, q12) else none else none) else (some ((-2), μ)) else none else none) else (s112_10 a0 a1 a2 μ)) else none else none
set_option maxRecDepth 20000 in
theorem t112 {μ : mM} {a0 : Nat} {a1 : Int32} {a2 : Int32} {o : (Int32 × mM)} (hr : s112 μ a0 a1 a2 = some o) : mEv mG 112 [.ref a0, .int a1, .int a2] μ (some (.int o.1)) (o.2) := by
  obtain ⟨r, hC⟩ : ∃ r : Option Value × mM, r = (some (.int o.1), o.2) := ⟨_, rfl⟩
  show mGo mG (112, List.drop 0 mC112, [.ref a0, .int a1, .int a2, .retAddr 0], [], μ) (some (.int o.1), o.2)
  rw [← hC]
  unfold s112 at hr
  refine mGo.steps 1 (c' := (112, List.drop 1 mC112, [.ref a0, .int a1, .int a2, .retAddr 0], [.ref a0], μ)) rfl ?_
  obtain ⟨h1, hr⟩ := mIf hr
  refine gGet (is := List.drop 2 mC112) (v := .ref (mP μ a0 1)) h1 rfl ?_
  refine mGo.steps 1 (c' := (112, List.drop 3 mC112, [.ref a0, .int a1, .int a2, .retAddr 0], [.int a1, .ref (mP μ a0 1)], μ)) rfl ?_
  obtain ⟨h2, hr⟩ := mIf hr
  obtain ⟨q3, h4, hr⟩ := mBi hr
  refine gCall (z := 17) (n := 1) (f := 0) (kind := 1) (a := (mP μ a0 1)) (As := [.int a1]) (y := 112) (is := List.drop 4 mC112) (L := [.ref a0, .int a1, .int a2, .retAddr 0]) (rest := []) (μ := μ) rfl (by decide) (by decide) ⟨rfl, rfl⟩ rfl h2 (Nat.le_of_ble_eq_true rfl) (Nat.le_of_ble_eq_true rfl) (t17 h4) ?_
  rcases mIte hr with ⟨h17, hr⟩ | ⟨h17, hr⟩
  · refine gBrT (p := q3 = 0) (y := 112) (is := List.drop 5 mC112) (L := [.ref a0, .int a1, .int a2, .retAddr 0]) (st := []) (μ := μ) (t := 21) rfl h17 ?_
    exact t112_10 a0 a1 a2 μ (.ref a0) rfl (.int a1) rfl (.int a2) rfl (.retAddr 0) rfl hr hC
  · refine gBrF (p := q3 = 0) (y := 112) (is := List.drop 5 mC112) (L := [.ref a0, .int a1, .int a2, .retAddr 0]) (st := []) (μ := μ) (t := 21) rfl h17 ?_
    refine mGo.steps 3 (c' := (112, List.drop 8 mC112, [.ref a0, .int a1, .int a2, .retAddr 0], [.int 12, .int 1, .int a2], μ)) rfl ?_
    obtain ⟨q5, h6, hr⟩ := mBi hr
    refine mGo.call (z := 131) (as := [.int a2, .int 1, .int 12]) (y := 112) (is := List.drop 9 mC112) (L := [.ref a0, .int a1, .int a2, .retAddr 0]) (st := []) (μ := μ) rfl (t131 h6) ?_
    rcases mIte hr with ⟨h16, hr⟩ | ⟨h16, hr⟩
    · refine gBrT (p := ¬ q5 = 0) (y := 112) (is := List.drop 10 mC112) (L := [.ref a0, .int a1, .int a2, .retAddr 0]) (st := []) (μ := μ) (t := 23) rfl h16 ?_
      refine mGo.steps 1 (c' := (112, List.drop 13 mC112, [.ref a0, .int a1, .int a2, .retAddr 0], [.ref a0], μ)) rfl ?_
      refine gGet (is := List.drop 14 mC112) (v := .ref (mP μ a0 1)) h1 rfl ?_
      refine gGet (is := List.drop 15 mC112) (v := .ref (mP μ (mP μ a0 1) 1)) h2 rfl ?_
      refine mGo.steps 1 (c' := (112, List.drop 16 mC112, [.ref a0, .int a1, .int a2, .retAddr 0], [.int a1, .ref (mP μ (mP μ a0 1) 1)], μ)) rfl ?_
      obtain ⟨h7, hr⟩ := mIf hr
      refine gAald (is := List.drop 17 mC112) h7 ?_
      refine mGo.steps 2 (c' := (112, List.drop 19 mC112, [.ref a0, .int a1, .int a2, .ref (mP μ (mP μ (mP μ a0 1) 1) (Int32.toNatClampNeg a1))], [.ref (mP μ (mP μ (mP μ a0 1) 1) (Int32.toNatClampNeg a1))], μ)) rfl ?_
      obtain ⟨h8, hr⟩ := mIf hr
      refine gGet (is := List.drop 20 mC112) (v := .int (mI μ (mP μ (mP μ (mP μ a0 1) 1) (Int32.toNatClampNeg a1)) 1)) h8 rfl ?_
      rcases mIte hr with ⟨h15, hr⟩ | ⟨h15, hr⟩
      · refine gBrT (p := (mI μ (mP μ (mP μ (mP μ a0 1) 1) (Int32.toNatClampNeg a1)) 1) = 0) (y := 112) (is := List.drop 21 mC112) (L := [.ref a0, .int a1, .int a2, .ref (mP μ (mP μ (mP μ a0 1) 1) (Int32.toNatClampNeg a1))]) (st := []) (μ := μ) (t := 43) rfl h15 ?_
        refine mGo.steps 2 (c' := (112, List.drop 25 mC112, [.ref a0, .int a1, .int a2, .ref (mP μ (mP μ (mP μ a0 1) 1) (Int32.toNatClampNeg a1))], [.int a2, .ref (mP μ (mP μ (mP μ a0 1) 1) (Int32.toNatClampNeg a1))], μ)) rfl ?_
        replace hr := mBs hr
        refine gPut (is := List.drop 26 mC112) (μ' := mUI μ (mP μ (mP μ (mP μ a0 1) 1) (Int32.toNatClampNeg a1)) 3 a2) h8 rfl ?_
        let μ9 : mM := mUI μ (mP μ (mP μ (mP μ a0 1) 1) (Int32.toNatClampNeg a1)) 3 a2
        refine mGo.steps 2 (c' := (112, List.drop 28 mC112, [.ref a0, .int a1, .int a2, .ref (mP μ (mP μ (mP μ a0 1) 1) (Int32.toNatClampNeg a1))], [.ref (mP μ (mP μ (mP μ a0 1) 1) (Int32.toNatClampNeg a1)), .ref (mP μ (mP μ (mP μ a0 1) 1) (Int32.toNatClampNeg a1))], μ9)) rfl ?_
        refine gGet (is := List.drop 29 mC112) (v := .int (mI μ9 (mP μ (mP μ (mP μ a0 1) 1) (Int32.toNatClampNeg a1)) 4)) h8 rfl ?_
        refine mGo.steps 2 (c' := (112, List.drop 31 mC112, [.ref a0, .int a1, .int a2, .ref (mP μ (mP μ (mP μ a0 1) 1) (Int32.toNatClampNeg a1))], [.int (mMin (mI μ9 (mP μ (mP μ (mP μ a0 1) 1) (Int32.toNatClampNeg a1)) 4) a2), .ref (mP μ (mP μ (mP μ a0 1) 1) (Int32.toNatClampNeg a1))], μ9)) rfl ?_
        replace hr := mBs hr
        refine gPut (is := List.drop 32 mC112) (μ' := mUI μ9 (mP μ (mP μ (mP μ a0 1) 1) (Int32.toNatClampNeg a1)) 4 (mMin (mI μ9 (mP μ (mP μ (mP μ a0 1) 1) (Int32.toNatClampNeg a1)) 4) a2)) h8 rfl ?_
        let μ10 : mM := mUI μ9 (mP μ (mP μ (mP μ a0 1) 1) (Int32.toNatClampNeg a1)) 4 (mMin (mI μ9 (mP μ (mP μ (mP μ a0 1) 1) (Int32.toNatClampNeg a1)) 4) a2)
        refine mGo.steps 1 (c' := (112, List.drop 33 mC112, [.ref a0, .int a1, .int a2, .ref (mP μ (mP μ (mP μ a0 1) 1) (Int32.toNatClampNeg a1))], [.ref a0], μ10)) rfl ?_
        refine gGet (is := List.drop 34 mC112) (v := .ref (mP μ10 a0 1)) h1 rfl ?_
        obtain ⟨h11, hr⟩ := mIf hr
        obtain ⟨q12, h13, hr⟩ := mBi hr
        refine gCall (z := 34) (n := 0) (f := 0) (kind := 1) (a := (mP μ10 a0 1)) (As := []) (y := 112) (is := List.drop 35 mC112) (L := [.ref a0, .int a1, .int a2, .ref (mP μ (mP μ (mP μ a0 1) 1) (Int32.toNatClampNeg a1))]) (rest := []) (μ := μ10) rfl (by decide) (by decide) ⟨rfl, rfl⟩ rfl h11 (Nat.le_of_ble_eq_true rfl) (Nat.le_of_ble_eq_true rfl) (t34 h13) ?_
        refine mGo.steps 1 (c' := (112, List.drop 36 mC112, [.ref a0, .int a1, .int a2, .ref (mP μ (mP μ (mP μ a0 1) 1) (Int32.toNatClampNeg a1))], [.ref (mP μ (mP μ (mP μ a0 1) 1) (Int32.toNatClampNeg a1))], q12)) rfl ?_
        obtain ⟨h14, hr⟩ := mIf hr
        refine gGet (is := List.drop 37 mC112) (v := .int (mI q12 (mP μ (mP μ (mP μ a0 1) 1) (Int32.toNatClampNeg a1)) 4)) h14 rfl ?_
        obtain rfl := Option.some.inj hr
        rw [show r = _ from hC]
        exact gIret rfl
      · refine gBrF (p := (mI μ (mP μ (mP μ (mP μ a0 1) 1) (Int32.toNatClampNeg a1)) 1) = 0) (y := 112) (is := List.drop 21 mC112) (L := [.ref a0, .int a1, .int a2, .ref (mP μ (mP μ (mP μ a0 1) 1) (Int32.toNatClampNeg a1))]) (st := []) (μ := μ) (t := 43) rfl h15 ?_
        refine mGo.steps 1 (c' := (112, List.drop 22 mC112, [.ref a0, .int a1, .int a2, .ref (mP μ (mP μ (mP μ a0 1) 1) (Int32.toNatClampNeg a1))], [.int (-2)], μ)) rfl ?_
        obtain rfl := Option.some.inj hr
        rw [show r = _ from hC]
        exact gIret rfl
    · refine gBrF (p := ¬ q5 = 0) (y := 112) (is := List.drop 10 mC112) (L := [.ref a0, .int a1, .int a2, .retAddr 0]) (st := []) (μ := μ) (t := 23) rfl h16 ?_
      exact t112_10 a0 a1 a2 μ (.ref a0) rfl (.int a1) rfl (.int a2) rfl (.retAddr 0) rfl hr hC
