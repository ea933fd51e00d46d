/-! 113: TunnelFabric.offer(III)I -/
def s113_13 (a0 : Nat) (a1 : Int32) (a2 : Int32) (a3 : Int32) (μ : mM) : Option (Int32 × mM) :=
  some ((-1), μ)
set_option maxRecDepth 20000 in
theorem t113_13 (a0 : Nat) (a1 : Int32) (a2 : Int32) (a3 : Int32) (μ : mM) (w0 : Value) (hw0 : mNotL w0 = true) (w1 : Value) (hw1 : mNotL w1 = true) (w2 : Value) (hw2 : mNotL w2 = true) (w3 : Value) (hw3 : mNotL w3 = true) (w4 : Value) (hw4 : mNotL w4 = true) {o : (Int32 × mM)} {r : Option Value × mM} (hr : s113_13 a0 a1 a2 a3 μ = some o) (hC : r = (some (.int o.1), o.2)) : mGo mG (113, List.drop 13 mC113, [w0, w1, w2, w3, w4], [], μ) r := by
  unfold s113_13 at hr
  refine mGo.steps 1 (c' := (113, List.drop 14 mC113, [w0, w1, w2, w3, w4], [.int (-1)], μ)) rfl ?_
  obtain rfl := Option.some.inj hr
  rw [show r = _ from hC]
  exact gIret rfl
def s113 (μ : mM) (a0 : Nat) (a1 : Int32) (a2 : Int32) (a3 : Int32) : Option (Int32 × mM) :=
  if (mS μ a0).1 = 8 then if (mS μ (mP μ a0 1)).1 = 1 then (s17 μ (mP μ a0 1) a1).bind fun q3 => if q3 = 0 then (s113_13 a0 a1 a2 a3 μ) else ((s132 μ a2).bind fun q5 => if q5 = 0 then (s113_13 a0 a1 a2 a3 μ) else ((s131 μ a3 1 99).bind fun q7 => if ¬ q7 = 0 then (if (mS μ (mP μ (mP μ a0 1) 1)).1 = 20 + 6 ∧ mInb a1 (mS μ (mP μ (mP μ a0 1) 1)).2 then if (mS μ (mP μ (mP μ (mP μ a0 1) 1) (Int32.toNatClampNeg a1))).1 = 6 then (s78 μ (mP μ (mP μ (mP μ a0 1) 1) (Int32.toNatClampNeg a1)) a2).bind fun q11 => if (mS μ q11).1 = 7 then if ¬ (mI μ q11 0) = 0 then (if ((mI μ q11 2) + a3) ≤ 99 then ((some (mUI μ q11 2 ((mI μ q11 2) + a3))).bind fun μ14 => some (mI μ14 q11 2, μ14)) else (some ((-5), μ))) else (some ((-2), μ)) else none else none else none) else (s113_13 a0 a1 a2 a3 μ))) else none else none
set_option maxRecDepth 20000 in
theorem t113 {μ : mM} {a0 : Nat} {a1 : Int32} {a2 : Int32} {a3 : Int32} {o : (Int32 × mM)} (hr : s113 μ a0 a1 a2 a3 = some o) : mEv mG 113 [.ref a0, .int a1, .int a2, .int a3] μ (some (.int o.1)) (o.2) := by
  obtain ⟨r, hC⟩ : ∃ r : Option Value × mM, r = (some (.int o.1), o.2) := ⟨_, rfl⟩
  show mGo mG (113, List.drop 0 mC113, [.ref a0, .int a1, .int a2, .int a3, .retAddr 0], [], μ) (some (.int o.1), o.2)
  rw [← hC]
  unfold s113 at hr
  refine mGo.steps 1 (c' := (113, List.drop 1 mC113, [.ref a0, .int a1, .int a2, .int a3, .retAddr 0], [.ref a0], μ)) rfl ?_
  obtain ⟨h1, hr⟩ := mIf hr
  refine gGet (is := List.drop 2 mC113) (v := .ref (mP μ a0 1)) h1 rfl ?_
  refine mGo.steps 1 (c' := (113, List.drop 3 mC113, [.ref a0, .int a1, .int a2, .int a3, .retAddr 0], [.int a1, .ref (mP μ a0 1)], μ)) rfl ?_
  obtain ⟨h2, hr⟩ := mIf hr
  obtain ⟨q3, h4, hr⟩ := mBi hr
  refine gCall (z := 17) (n := 1) (f := 0) (kind := 1) (a := (mP μ a0 1)) (As := [.int a1]) (y := 113) (is := List.drop 4 mC113) (L := [.ref a0, .int a1, .int a2, .int a3, .retAddr 0]) (rest := []) (μ := μ) rfl (by decide) (by decide) ⟨rfl, rfl⟩ rfl h2 (Nat.le_of_ble_eq_true rfl) (Nat.le_of_ble_eq_true rfl) (t17 h4) ?_
  rcases mIte hr with ⟨h19, hr⟩ | ⟨h19, hr⟩
  · refine gBrT (p := q3 = 0) (y := 113) (is := List.drop 5 mC113) (L := [.ref a0, .int a1, .int a2, .int a3, .retAddr 0]) (st := []) (μ := μ) (t := 28) rfl h19 ?_
    exact t113_13 a0 a1 a2 a3 μ (.ref a0) rfl (.int a1) rfl (.int a2) rfl (.int a3) rfl (.retAddr 0) rfl hr hC
  · refine gBrF (p := q3 = 0) (y := 113) (is := List.drop 5 mC113) (L := [.ref a0, .int a1, .int a2, .int a3, .retAddr 0]) (st := []) (μ := μ) (t := 28) rfl h19 ?_
    refine mGo.steps 1 (c' := (113, List.drop 6 mC113, [.ref a0, .int a1, .int a2, .int a3, .retAddr 0], [.int a2], μ)) rfl ?_
    obtain ⟨q5, h6, hr⟩ := mBi hr
    refine mGo.call (z := 132) (as := [.int a2]) (y := 113) (is := List.drop 7 mC113) (L := [.ref a0, .int a1, .int a2, .int a3, .retAddr 0]) (st := []) (μ := μ) rfl (t132 h6) ?_
    rcases mIte hr with ⟨h18, hr⟩ | ⟨h18, hr⟩
    · refine gBrT (p := q5 = 0) (y := 113) (is := List.drop 8 mC113) (L := [.ref a0, .int a1, .int a2, .int a3, .retAddr 0]) (st := []) (μ := μ) (t := 28) rfl h18 ?_
      exact t113_13 a0 a1 a2 a3 μ (.ref a0) rfl (.int a1) rfl (.int a2) rfl (.int a3) rfl (.retAddr 0) rfl hr hC
    · refine gBrF (p := q5 = 0) (y := 113) (is := List.drop 8 mC113) (L := [.ref a0, .int a1, .int a2, .int a3, .retAddr 0]) (st := []) (μ := μ) (t := 28) rfl h18 ?_
      refine mGo.steps 3 (c' := (113, List.drop 11 mC113, [.ref a0, .int a1, .int a2, .int a3, .retAddr 0], [.int 99, .int 1, .int a3], μ)) rfl ?_
      obtain ⟨q7, h8, hr⟩ := mBi hr
      refine mGo.call (z := 131) (as := [.int a3, .int 1, .int 99]) (y := 113) (is := List.drop 12 mC113) (L := [.ref a0, .int a1, .int a2, .int a3, .retAddr 0]) (st := []) (μ := μ) rfl (t131 h8) ?_
      rcases mIte hr with ⟨h17, hr⟩ | ⟨h17, hr⟩
      · refine gBrT (p := ¬ q7 = 0) (y := 113) (is := List.drop 13 mC113) (L := [.ref a0, .int a1, .int a2, .int a3, .retAddr 0]) (st := []) (μ := μ) (t := 30) rfl h17 ?_
        refine mGo.steps 1 (c' := (113, List.drop 16 mC113, [.ref a0, .int a1, .int a2, .int a3, .retAddr 0], [.ref a0], μ)) rfl ?_
        refine gGet (is := List.drop 17 mC113) (v := .ref (mP μ a0 1)) h1 rfl ?_
        refine gGet (is := List.drop 18 mC113) (v := .ref (mP μ (mP μ a0 1) 1)) h2 rfl ?_
        refine mGo.steps 1 (c' := (113, List.drop 19 mC113, [.ref a0, .int a1, .int a2, .int a3, .retAddr 0], [.int a1, .ref (mP μ (mP μ a0 1) 1)], μ)) rfl ?_
        obtain ⟨h9, hr⟩ := mIf hr
        refine gAald (is := List.drop 20 mC113) h9 ?_
        refine mGo.steps 1 (c' := (113, List.drop 21 mC113, [.ref a0, .int a1, .int a2, .int a3, .retAddr 0], [.int a2, .ref (mP μ (mP μ (mP μ a0 1) 1) (Int32.toNatClampNeg a1))], μ)) rfl ?_
        obtain ⟨h10, hr⟩ := mIf hr
        obtain ⟨q11, h12, hr⟩ := mBi hr
        refine gCall (z := 78) (n := 1) (f := 0) (kind := 1) (a := (mP μ (mP μ (mP μ a0 1) 1) (Int32.toNatClampNeg a1))) (As := [.int a2]) (y := 113) (is := List.drop 22 mC113) (L := [.ref a0, .int a1, .int a2, .int a3, .retAddr 0]) (rest := []) (μ := μ) rfl (by decide) (by decide) ⟨rfl, rfl⟩ rfl h10 (Nat.le_of_ble_eq_true rfl) (Nat.le_of_ble_eq_true rfl) (t78 h12) ?_
        refine mGo.steps 2 (c' := (113, List.drop 24 mC113, [.ref a0, .int a1, .int a2, .int a3, .ref q11], [.ref q11], μ)) rfl ?_
        obtain ⟨h13, hr⟩ := mIf hr
        refine gGet (is := List.drop 25 mC113) (v := .int (mI μ q11 0)) h13 rfl ?_
        rcases mIte hr with ⟨h16, hr⟩ | ⟨h16, hr⟩
        · refine gBrT (p := ¬ (mI μ q11 0) = 0) (y := 113) (is := List.drop 26 mC113) (L := [.ref a0, .int a1, .int a2, .int a3, .ref q11]) (st := []) (μ := μ) (t := 56) rfl h16 ?_
          refine mGo.steps 1 (c' := (113, List.drop 29 mC113, [.ref a0, .int a1, .int a2, .int a3, .ref q11], [.ref q11], μ)) rfl ?_
          refine gGet (is := List.drop 30 mC113) (v := .int (mI μ q11 2)) h13 rfl ?_
          refine mGo.steps 3 (c' := (113, List.drop 33 mC113, [.ref a0, .int a1, .int a2, .int a3, .ref q11], [.int 99, .int ((mI μ q11 2) + a3)], μ)) rfl ?_
          rcases mIte hr with ⟨h15, hr⟩ | ⟨h15, hr⟩
          · refine gBrT (p := ((mI μ q11 2) + a3) ≤ 99) (y := 113) (is := List.drop 34 mC113) (L := [.ref a0, .int a1, .int a2, .int a3, .ref q11]) (st := []) (μ := μ) (t := 71) rfl h15 ?_
            refine mGo.steps 2 (c' := (113, List.drop 38 mC113, [.ref a0, .int a1, .int a2, .int a3, .ref q11], [.ref q11, .ref q11], μ)) rfl ?_
            refine gGet (is := List.drop 39 mC113) (v := .int (mI μ q11 2)) h13 rfl ?_
            refine mGo.steps 2 (c' := (113, List.drop 41 mC113, [.ref a0, .int a1, .int a2, .int a3, .ref q11], [.int ((mI μ q11 2) + a3), .ref q11], μ)) rfl ?_
            replace hr := mBs hr
            refine gPut (is := List.drop 42 mC113) (μ' := mUI μ q11 2 ((mI μ q11 2) + a3)) h13 rfl ?_
            let μ14 : mM := mUI μ q11 2 ((mI μ q11 2) + a3)
            refine mGo.steps 1 (c' := (113, List.drop 43 mC113, [.ref a0, .int a1, .int a2, .int a3, .ref q11], [.ref q11], μ14)) rfl ?_
            refine gGet (is := List.drop 44 mC113) (v := .int (mI μ14 q11 2)) h13 rfl ?_
            obtain rfl := Option.some.inj hr
            rw [show r = _ from hC]
            exact gIret rfl
          · refine gBrF (p := ((mI μ q11 2) + a3) ≤ 99) (y := 113) (is := List.drop 34 mC113) (L := [.ref a0, .int a1, .int a2, .int a3, .ref q11]) (st := []) (μ := μ) (t := 71) rfl h15 ?_
            refine mGo.steps 1 (c' := (113, List.drop 35 mC113, [.ref a0, .int a1, .int a2, .int a3, .ref q11], [.int (-5)], μ)) rfl ?_
            obtain rfl := Option.some.inj hr
            rw [show r = _ from hC]
            exact gIret rfl
        · refine gBrF (p := ¬ (mI μ q11 0) = 0) (y := 113) (is := List.drop 26 mC113) (L := [.ref a0, .int a1, .int a2, .int a3, .ref q11]) (st := []) (μ := μ) (t := 56) rfl h16 ?_
          refine mGo.steps 1 (c' := (113, List.drop 27 mC113, [.ref a0, .int a1, .int a2, .int a3, .ref q11], [.int (-2)], μ)) rfl ?_
          obtain rfl := Option.some.inj hr
          rw [show r = _ from hC]
          exact gIret rfl
      · refine gBrF (p := ¬ q7 = 0) (y := 113) (is := List.drop 13 mC113) (L := [.ref a0, .int a1, .int a2, .int a3, .retAddr 0]) (st := []) (μ := μ) (t := 30) rfl h17 ?_
        exact t113_13 a0 a1 a2 a3 μ (.ref a0) rfl (.int a1) rfl (.int a2) rfl (.int a3) rfl (.retAddr 0) rfl hr hC

/-! 114: TunnelFabric.tunnel(II)I -/
def s114_28 (μ : mM) (a0 : Nat) (a1 : Int32) (a2 : Int32) (t0 : Int32) : Option Int32 :=
  some t0
set_option maxRecDepth 20000 in
theorem t114_28 (μ : mM) (a0 : Nat) (a1 : Int32) (a2 : Int32) (t0 : Int32) (w0 : Value) (hw0 : mNotL w0 = true) (w1 : Value) (hw1 : mNotL w1 = true) (w2 : Value) (hw2 : mNotL w2 = true) (w3 : Value) (hw3 : mNotL w3 = true) {o : Int32} {r : Option Value × mM} (hr : s114_28 μ a0 a1 a2 t0 = some o) (hC : r = (some (.int o), μ)) : mGo mG (114, List.drop 28 mC114, [w0, w1, w2, w3], [.int t0], μ) r := by
  unfold s114_28 at hr
  obtain rfl := Option.some.inj hr
  rw [show r = _ from hC]
  exact gIret rfl
def s114_36 (μ : mM) (a0 : Nat) (a1 : Int32) (a2 : Int32) (t0 : Int32) : Option Int32 :=
  some t0
set_option maxRecDepth 20000 in
theorem t114_36 (μ : mM) (a0 : Nat) (a1 : Int32) (a2 : Int32) (t0 : Int32) (w0 : Value) (hw0 : mNotL w0 = true) (w1 : Value) (hw1 : mNotL w1 = true) (w2 : Value) (hw2 : mNotL w2 = true) (w3 : Value) (hw3 : mNotL w3 = true) {o : Int32} {r : Option Value × mM} (hr : s114_36 μ a0 a1 a2 t0 = some o) (hC : r = (some (.int o), μ)) : mGo mG (114, List.drop 36 mC114, [w0, w1, w2, w3], [.int t0], μ) r := by
  unfold s114_36 at hr
  obtain rfl := Option.some.inj hr
  rw [show r = _ from hC]
  exact gIret rfl
def s114 (μ : mM) (a0 : Nat) (a1 : Int32) (a2 : Int32) : Option Int32 :=
  if (mS μ a0).1 = 8 then if (mS μ (mP μ a0 1)).1 = 1 then (s17 μ (mP μ a0 1) a1).bind fun q3 => if ¬ q3 = 0 then (if (mS μ (mP μ (mP μ a0 1) 1)).1 = 20 + 6 ∧ mInb a1 (mS μ (mP μ (mP μ a0 1) 1)).2 then if a2 = 0 then (if (mS μ (mP μ (mP μ (mP μ a0 1) 1) (Int32.toNatClampNeg a1))).1 = 6 then some (mI μ (mP μ (mP μ (mP μ a0 1) 1) (Int32.toNatClampNeg a1)) 1) else none) else (if a2 = 1 then (if (mS μ (mP μ (mP μ (mP μ a0 1) 1) (Int32.toNatClampNeg a1))).1 = 6 then some (mI μ (mP μ (mP μ (mP μ a0 1) 1) (Int32.toNatClampNeg a1)) 2) else none) else (if a2 = 2 then (if (mS μ (mP μ (mP μ (mP μ a0 1) 1) (Int32.toNatClampNeg a1))).1 = 6 then if ¬ (mI μ (mP μ (mP μ (mP μ a0 1) 1) (Int32.toNatClampNeg a1)) 1) = 0 then (s114_28 μ a0 a1 a2 (-10)) else (s114_28 μ a0 a1 a2 (mI μ (mP μ (mP μ (mP μ a0 1) 1) (Int32.toNatClampNeg a1)) 3)) else none) else (if a2 = 3 then (if (mS μ (mP μ (mP μ (mP μ a0 1) 1) (Int32.toNatClampNeg a1))).1 = 6 then if ¬ (mI μ (mP μ (mP μ (mP μ a0 1) 1) (Int32.toNatClampNeg a1)) 1) = 0 then (s114_36 μ a0 a1 a2 (-10)) else (s114_36 μ a0 a1 a2 (mI μ (mP μ (mP μ (mP μ a0 1) 1) (Int32.toNatClampNeg a1)) 4)) else none) else (if a2 = 4 then (if (mS μ (mP μ (mP μ (mP μ a0 1) 1) (Int32.toNatClampNeg a1))).1 = 6 then if (mS μ (mP μ (mP μ (mP μ (mP μ a0 1) 1) (Int32.toNatClampNeg a1)) 6)).1 = 7 then some (mI μ (mP μ (mP μ (mP μ (mP μ a0 1) 1) (Int32.toNatClampNeg a1)) 6) 1) else none else none) else (if a2 = 5 then (if (mS μ (mP μ (mP μ (mP μ a0 1) 1) (Int32.toNatClampNeg a1))).1 = 6 then some (mI μ (mP μ (mP μ (mP μ a0 1) 1) (Int32.toNatClampNeg a1)) 5) else none) else (some (-1))))))) else none) else (some (-1)) else none else none
set_option maxRecDepth 20000 in
theorem t114 {μ : mM} {a0 : Nat} {a1 : Int32} {a2 : Int32} {o : Int32} (hr : s114 μ a0 a1 a2 = some o) : mEv mG 114 [.ref a0, .int a1, .int a2] μ (some (.int o)) (μ) := by
  obtain ⟨r, hC⟩ : ∃ r : Option Value × mM, r = (some (.int o), μ) := ⟨_, rfl⟩
  show mGo mG (114, List.drop 0 mC114, [.ref a0, .int a1, .int a2, .retAddr 0], [], μ) (some (.int o), μ)
  rw [← hC]
  unfold s114 at hr
  refine mGo.steps 1 (c' := (114, List.drop 1 mC114, [.ref a0, .int a1, .int a2, .retAddr 0], [.ref a0], μ)) rfl ?_
  obtain ⟨h1, hr⟩ := mIf hr
  refine gGet (is := List.drop 2 mC114) (v := .ref (mP μ a0 1)) h1 rfl ?_
  refine mGo.steps 1 (c' := (114, List.drop 3 mC114, [.ref a0, .int a1, .int a2, .retAddr 0], [.int a1, .ref (mP μ a0 1)], μ)) rfl ?_
  obtain ⟨h2, hr⟩ := mIf hr
  obtain ⟨q3, h4, hr⟩ := mBi hr
  refine gCall (z := 17) (n := 1) (f := 0) (kind := 1) (a := (mP μ a0 1)) (As := [.int a1]) (y := 114) (is := List.drop 4 mC114) (L := [.ref a0, .int a1, .int a2, .retAddr 0]) (rest := []) (μ := μ) rfl (by decide) (by decide) ⟨rfl, rfl⟩ rfl h2 (Nat.le_of_ble_eq_true rfl) (Nat.le_of_ble_eq_true rfl) (t17 h4) ?_
  rcases mIte hr with ⟨h21, hr⟩ | ⟨h21, hr⟩
  · refine gBrT (p := ¬ q3 = 0) (y := 114) (is := List.drop 5 mC114) (L := [.ref a0, .int a1, .int a2, .retAddr 0]) (st := []) (μ := μ) (t := 13) rfl h21 ?_
    refine mGo.steps 1 (c' := (114, List.drop 8 mC114, [.ref a0, .int a1, .int a2, .retAddr 0], [.ref a0], μ)) rfl ?_
    refine gGet (is := List.drop 9 mC114) (v := .ref (mP μ a0 1)) h1 rfl ?_
    refine gGet (is := List.drop 10 mC114) (v := .ref (mP μ (mP μ a0 1) 1)) h2 rfl ?_
    refine mGo.steps 1 (c' := (114, List.drop 11 mC114, [.ref a0, .int a1, .int a2, .retAddr 0], [.int a1, .ref (mP μ (mP μ a0 1) 1)], μ)) rfl ?_
    obtain ⟨h5, hr⟩ := mIf hr
    refine gAald (is := List.drop 12 mC114) h5 ?_
    refine mGo.steps 2 (c' := (114, List.drop 14 mC114, [.ref a0, .int a1, .int a2, .ref (mP μ (mP μ (mP μ a0 1) 1) (Int32.toNatClampNeg a1))], [.int a2], μ)) rfl ?_
    refine mGo.steps 1 (c' := (114, mSeek (mTs a2 0 [64, 69, 74, 91, 108, 116] 121) (rC (mG 114)), [.ref a0, .int a1, .int a2, .ref (mP μ (mP μ (mP μ a0 1) 1) (Int32.toNatClampNeg a1))], [], μ)) rfl ?_
    rcases mIte hr with ⟨h7, hr⟩ | ⟨h7, hr⟩
    · refine gTs1 (w := 0) h7 rfl ?_
      refine mGo.steps 1 (c' := (114, List.drop 16 mC114, [.ref a0, .int a1, .int a2, .ref (mP μ (mP μ (mP μ a0 1) 1) (Int32.toNatClampNeg a1))], [.ref (mP μ (mP μ (mP μ a0 1) 1) (Int32.toNatClampNeg a1))], μ)) rfl ?_
      obtain ⟨h6, hr⟩ := mIf hr
      refine gGet (is := List.drop 17 mC114) (v := .int (mI μ (mP μ (mP μ (mP μ a0 1) 1) (Int32.toNatClampNeg a1)) 1)) h6 rfl ?_
      obtain rfl := Option.some.inj hr
      rw [show r = _ from hC]
      exact gIret rfl
    · refine gTs0 (w := 0) h7 rfl ?_
      rcases mIte hr with ⟨h9, hr⟩ | ⟨h9, hr⟩
      · refine gTs1 (w := 1) h9 rfl ?_
        refine mGo.steps 1 (c' := (114, List.drop 19 mC114, [.ref a0, .int a1, .int a2, .ref (mP μ (mP μ (mP μ a0 1) 1) (Int32.toNatClampNeg a1))], [.ref (mP μ (mP μ (mP μ a0 1) 1) (Int32.toNatClampNeg a1))], μ)) rfl ?_
        obtain ⟨h8, hr⟩ := mIf hr
        refine gGet (is := List.drop 20 mC114) (v := .int (mI μ (mP μ (mP μ (mP μ a0 1) 1) (Int32.toNatClampNeg a1)) 2)) h8 rfl ?_
        obtain rfl := Option.some.inj hr
        rw [show r = _ from hC]
        exact gIret rfl
      · refine gTs0 (w := 1) h9 rfl ?_
        rcases mIte hr with ⟨h12, hr⟩ | ⟨h12, hr⟩
        · refine gTs1 (w := 2) h12 rfl ?_
          refine mGo.steps 1 (c' := (114, List.drop 22 mC114, [.ref a0, .int a1, .int a2, .ref (mP μ (mP μ (mP μ a0 1) 1) (Int32.toNatClampNeg a1))], [.ref (mP μ (mP μ (mP μ a0 1) 1) (Int32.toNatClampNeg a1))], μ)) rfl ?_
          obtain ⟨h10, hr⟩ := mIf hr
          refine gGet (is := List.drop 23 mC114) (v := .int (mI μ (mP μ (mP μ (mP μ a0 1) 1) (Int32.toNatClampNeg a1)) 1)) h10 rfl ?_
          rcases mIte hr with ⟨h11, hr⟩ | ⟨h11, hr⟩
          · refine gBrT (p := ¬ (mI μ (mP μ (mP μ (mP μ a0 1) 1) (Int32.toNatClampNeg a1)) 1) = 0) (y := 114) (is := List.drop 24 mC114) (L := [.ref a0, .int a1, .int a2, .ref (mP μ (mP μ (mP μ a0 1) 1) (Int32.toNatClampNeg a1))]) (st := []) (μ := μ) (t := 88) rfl h11 ?_
            refine mGo.steps 1 (c' := (114, List.drop 28 mC114, [.ref a0, .int a1, .int a2, .ref (mP μ (mP μ (mP μ a0 1) 1) (Int32.toNatClampNeg a1))], [.int (-10)], μ)) rfl ?_
            exact t114_28 μ a0 a1 a2 (-10) (.ref a0) rfl (.int a1) rfl (.int a2) rfl (.ref (mP μ (mP μ (mP μ a0 1) 1) (Int32.toNatClampNeg a1))) rfl hr hC
          · refine gBrF (p := ¬ (mI μ (mP μ (mP μ (mP μ a0 1) 1) (Int32.toNatClampNeg a1)) 1) = 0) (y := 114) (is := List.drop 24 mC114) (L := [.ref a0, .int a1, .int a2, .ref (mP μ (mP μ (mP μ a0 1) 1) (Int32.toNatClampNeg a1))]) (st := []) (μ := μ) (t := 88) rfl h11 ?_
            refine mGo.steps 1 (c' := (114, List.drop 25 mC114, [.ref a0, .int a1, .int a2, .ref (mP μ (mP μ (mP μ a0 1) 1) (Int32.toNatClampNeg a1))], [.ref (mP μ (mP μ (mP μ a0 1) 1) (Int32.toNatClampNeg a1))], μ)) rfl ?_
            refine gGet (is := List.drop 26 mC114) (v := .int (mI μ (mP μ (mP μ (mP μ a0 1) 1) (Int32.toNatClampNeg a1)) 3)) h10 rfl ?_
            refine mGo.steps 1 (c' := (114, List.drop 28 mC114, [.ref a0, .int a1, .int a2, .ref (mP μ (mP μ (mP μ a0 1) 1) (Int32.toNatClampNeg a1))], [.int (mI μ (mP μ (mP μ (mP μ a0 1) 1) (Int32.toNatClampNeg a1)) 3)], μ)) rfl ?_
            exact t114_28 μ a0 a1 a2 (mI μ (mP μ (mP μ (mP μ a0 1) 1) (Int32.toNatClampNeg a1)) 3) (.ref a0) rfl (.int a1) rfl (.int a2) rfl (.ref (mP μ (mP μ (mP μ a0 1) 1) (Int32.toNatClampNeg a1))) rfl hr hC
        · refine gTs0 (w := 2) h12 rfl ?_
          rcases mIte hr with ⟨h15, hr⟩ | ⟨h15, hr⟩
          · refine gTs1 (w := 3) h15 rfl ?_
            refine mGo.steps 1 (c' := (114, List.drop 30 mC114, [.ref a0, .int a1, .int a2, .ref (mP μ (mP μ (mP μ a0 1) 1) (Int32.toNatClampNeg a1))], [.ref (mP μ (mP μ (mP μ a0 1) 1) (Int32.toNatClampNeg a1))], μ)) rfl ?_
            obtain ⟨h13, hr⟩ := mIf hr
            refine gGet (is := List.drop 31 mC114) (v := .int (mI μ (mP μ (mP μ (mP μ a0 1) 1) (Int32.toNatClampNeg a1)) 1)) h13 rfl ?_
            rcases mIte hr with ⟨h14, hr⟩ | ⟨h14, hr⟩
            · refine gBrT (p := ¬ (mI μ (mP μ (mP μ (mP μ a0 1) 1) (Int32.toNatClampNeg a1)) 1) = 0) (y := 114) (is := List.drop 32 mC114) (L := [.ref a0, .int a1, .int a2, .ref (mP μ (mP μ (mP μ a0 1) 1) (Int32.toNatClampNeg a1))]) (st := []) (μ := μ) (t := 105) rfl h14 ?_
              refine mGo.steps 1 (c' := (114, List.drop 36 mC114, [.ref a0, .int a1, .int a2, .ref (mP μ (mP μ (mP μ a0 1) 1) (Int32.toNatClampNeg a1))], [.int (-10)], μ)) rfl ?_
              exact t114_36 μ a0 a1 a2 (-10) (.ref a0) rfl (.int a1) rfl (.int a2) rfl (.ref (mP μ (mP μ (mP μ a0 1) 1) (Int32.toNatClampNeg a1))) rfl hr hC
            · refine gBrF (p := ¬ (mI μ (mP μ (mP μ (mP μ a0 1) 1) (Int32.toNatClampNeg a1)) 1) = 0) (y := 114) (is := List.drop 32 mC114) (L := [.ref a0, .int a1, .int a2, .ref (mP μ (mP μ (mP μ a0 1) 1) (Int32.toNatClampNeg a1))]) (st := []) (μ := μ) (t := 105) rfl h14 ?_
              refine mGo.steps 1 (c' := (114, List.drop 33 mC114, [.ref a0, .int a1, .int a2, .ref (mP μ (mP μ (mP μ a0 1) 1) (Int32.toNatClampNeg a1))], [.ref (mP μ (mP μ (mP μ a0 1) 1) (Int32.toNatClampNeg a1))], μ)) rfl ?_
              refine gGet (is := List.drop 34 mC114) (v := .int (mI μ (mP μ (mP μ (mP μ a0 1) 1) (Int32.toNatClampNeg a1)) 4)) h13 rfl ?_
              refine mGo.steps 1 (c' := (114, List.drop 36 mC114, [.ref a0, .int a1, .int a2, .ref (mP μ (mP μ (mP μ a0 1) 1) (Int32.toNatClampNeg a1))], [.int (mI μ (mP μ (mP μ (mP μ a0 1) 1) (Int32.toNatClampNeg a1)) 4)], μ)) rfl ?_
              exact t114_36 μ a0 a1 a2 (mI μ (mP μ (mP μ (mP μ a0 1) 1) (Int32.toNatClampNeg a1)) 4) (.ref a0) rfl (.int a1) rfl (.int a2) rfl (.ref (mP μ (mP μ (mP μ a0 1) 1) (Int32.toNatClampNeg a1))) rfl hr hC
          · refine gTs0 (w := 3) h15 rfl ?_
            rcases mIte hr with ⟨h18, hr⟩ | ⟨h18, hr⟩
            · refine gTs1 (w := 4) h18 rfl ?_
              refine mGo.steps 1 (c' := (114, List.drop 38 mC114, [.ref a0, .int a1, .int a2, .ref (mP μ (mP μ (mP μ a0 1) 1) (Int32.toNatClampNeg a1))], [.ref (mP μ (mP μ (mP μ a0 1) 1) (Int32.toNatClampNeg a1))], μ)) rfl ?_
              obtain ⟨h16, hr⟩ := mIf hr
              refine gGet (is := List.drop 39 mC114) (v := .ref (mP μ (mP μ (mP μ (mP μ a0 1) 1) (Int32.toNatClampNeg a1)) 6)) h16 rfl ?_
              obtain ⟨h17, hr⟩ := mIf hr
              refine gGet (is := List.drop 40 mC114) (v := .int (mI μ (mP μ (mP μ (mP μ (mP μ a0 1) 1) (Int32.toNatClampNeg a1)) 6) 1)) h17 rfl ?_
              obtain rfl := Option.some.inj hr
              rw [show r = _ from hC]
              exact gIret rfl
            · refine gTs0 (w := 4) h18 rfl ?_
              rcases mIte hr with ⟨h20, hr⟩ | ⟨h20, hr⟩
              · refine gTs1 (w := 5) h20 rfl ?_
                refine mGo.steps 1 (c' := (114, List.drop 42 mC114, [.ref a0, .int a1, .int a2, .ref (mP μ (mP μ (mP μ a0 1) 1) (Int32.toNatClampNeg a1))], [.ref (mP μ (mP μ (mP μ a0 1) 1) (Int32.toNatClampNeg a1))], μ)) rfl ?_
                obtain ⟨h19, hr⟩ := mIf hr
                refine gGet (is := List.drop 43 mC114) (v := .int (mI μ (mP μ (mP μ (mP μ a0 1) 1) (Int32.toNatClampNeg a1)) 5)) h19 rfl ?_
                obtain rfl := Option.some.inj hr
                rw [show r = _ from hC]
                exact gIret rfl
              · refine gTs0 (w := 5) h20 rfl ?_
                refine mGo.steps 1 (c' := (114, List.drop 45 mC114, [.ref a0, .int a1, .int a2, .ref (mP μ (mP μ (mP μ a0 1) 1) (Int32.toNatClampNeg a1))], [.int (-1)], μ)) rfl ?_
                obtain rfl := Option.some.inj hr
                rw [show r = _ from hC]
                exact gIret rfl
  · refine gBrF (p := ¬ q3 = 0) (y := 114) (is := List.drop 5 mC114) (L := [.ref a0, .int a1, .int a2, .retAddr 0]) (st := []) (μ := μ) (t := 13) rfl h21 ?_
    refine mGo.steps 1 (c' := (114, List.drop 6 mC114, [.ref a0, .int a1, .int a2, .retAddr 0], [.int (-1)], μ)) rfl ?_
    obtain rfl := Option.some.inj hr
    rw [show r = _ from hC]
    exact gIret rfl

/-! 115: TunnelFabric.hop(IIII)I -/
def s115_13 (μ : mM) (a0 : Nat) (a1 : Int32) (a2 : Int32) (a3 : Int32) (a4 : Int32) : Option Int32 :=
  some (-1)
set_option maxRecDepth 20000 in
theorem t115_13 (μ : mM) (a0 : Nat) (a1 : Int32) (a2 : Int32) (a3 : Int32) (a4 : Int32) (w0 : Value) (hw0 : mNotL w0 = true) (w1 : Value) (hw1 : mNotL w1 = true) (w2 : Value) (hw2 : mNotL w2 = true) (w3 : Value) (hw3 : mNotL w3 = true) (w4 : Value) (hw4 : mNotL w4 = true) (w5 : Value) (hw5 : mNotL w5 = true) {o : Int32} {r : Option Value × mM} (hr : s115_13 μ a0 a1 a2 a3 a4 = some o) (hC : r = (some (.int o), μ)) : mGo mG (115, List.drop 13 mC115, [w0, w1, w2, w3, w4, w5], [], μ) r := by
  unfold s115_13 at hr
  refine mGo.steps 1 (c' := (115, List.drop 14 mC115, [w0, w1, w2, w3, w4, w5], [.int (-1)], μ)) rfl ?_
  obtain rfl := Option.some.inj hr
  rw [show r = _ from hC]
  exact gIret rfl
def s115 (μ : mM) (a0 : Nat) (a1 : Int32) (a2 : Int32) (a3 : Int32) (a4 : Int32) : Option Int32 :=
  if (mS μ a0).1 = 8 then if (mS μ (mP μ a0 1)).1 = 1 then (s17 μ (mP μ a0 1) a1).bind fun q3 => if q3 = 0 then (s115_13 μ a0 a1 a2 a3 a4) else ((s132 μ a2).bind fun q5 => if q5 = 0 then (s115_13 μ a0 a1 a2 a3 a4) else ((s131 μ a4 0 3).bind fun q7 => if ¬ q7 = 0 then (if (mS μ (mP μ (mP μ a0 1) 1)).1 = 20 + 6 ∧ mInb a1 (mS μ (mP μ (mP μ a0 1) 1)).2 then if (mS μ (mP μ (mP μ (mP μ a0 1) 1) (Int32.toNatClampNeg a1))).1 = 6 then (s78 μ (mP μ (mP μ (mP μ a0 1) 1) (Int32.toNatClampNeg a1)) a2).bind fun q11 => if (mS μ q11).1 = 7 then (s89 μ q11 a3).bind fun q14 => if ¬ q14 = 0 then (if a4 = 0 then (if (mS μ (mP μ q11 4)).1 = 10 ∧ mInb a3 (mS μ (mP μ q11 4)).2 then some (mI μ (mP μ q11 4) (Int32.toNatClampNeg a3)) else none) else (if a4 = 1 then (if (mS μ (mP μ q11 5)).1 = 10 ∧ mInb a3 (mS μ (mP μ q11 5)).2 then some (mI μ (mP μ q11 5) (Int32.toNatClampNeg a3)) else none) else (if a4 = 2 then (if (mS μ (mP μ q11 6)).1 = 10 ∧ mInb a3 (mS μ (mP μ q11 6)).2 then some (mI μ (mP μ q11 6) (Int32.toNatClampNeg a3)) else none) else (if (mS μ (mP μ q11 7)).1 = 10 ∧ mInb a3 (mS μ (mP μ q11 7)).2 then some (mI μ (mP μ q11 7) (Int32.toNatClampNeg a3)) else none)))) else (some (-10)) else none else none else none) else (s115_13 μ a0 a1 a2 a3 a4))) else none else none
set_option maxRecDepth 20000 in
theorem t115 {μ : mM} {a0 : Nat} {a1 : Int32} {a2 : Int32} {a3 : Int32} {a4 : Int32} {o : Int32} (hr : s115 μ a0 a1 a2 a3 a4 = some o) : mEv mG 115 [.ref a0, .int a1, .int a2, .int a3, .int a4] μ (some (.int o)) (μ) := by
  obtain ⟨r, hC⟩ : ∃ r : Option Value × mM, r = (some (.int o), μ) := ⟨_, rfl⟩
  show mGo mG (115, List.drop 0 mC115, [.ref a0, .int a1, .int a2, .int a3, .int a4, .retAddr 0], [], μ) (some (.int o), μ)
  rw [← hC]
  unfold s115 at hr
  refine mGo.steps 1 (c' := (115, List.drop 1 mC115, [.ref a0, .int a1, .int a2, .int a3, .int a4, .retAddr 0], [.ref a0], μ)) rfl ?_
  obtain ⟨h1, hr⟩ := mIf hr
  refine gGet (is := List.drop 2 mC115) (v := .ref (mP μ a0 1)) h1 rfl ?_
  refine mGo.steps 1 (c' := (115, List.drop 3 mC115, [.ref a0, .int a1, .int a2, .int a3, .int a4, .retAddr 0], [.int a1, .ref (mP μ a0 1)], μ)) rfl ?_
  obtain ⟨h2, hr⟩ := mIf hr
  obtain ⟨q3, h4, hr⟩ := mBi hr
  refine gCall (z := 17) (n := 1) (f := 0) (kind := 1) (a := (mP μ a0 1)) (As := [.int a1]) (y := 115) (is := List.drop 4 mC115) (L := [.ref a0, .int a1, .int a2, .int a3, .int a4, .retAddr 0]) (rest := []) (μ := μ) rfl (by decide) (by decide) ⟨rfl, rfl⟩ rfl h2 (Nat.le_of_ble_eq_true rfl) (Nat.le_of_ble_eq_true rfl) (t17 h4) ?_
  rcases mIte hr with ⟨h26, hr⟩ | ⟨h26, hr⟩
  · refine gBrT (p := q3 = 0) (y := 115) (is := List.drop 5 mC115) (L := [.ref a0, .int a1, .int a2, .int a3, .int a4, .retAddr 0]) (st := []) (μ := μ) (t := 28) rfl h26 ?_
    exact t115_13 μ a0 a1 a2 a3 a4 (.ref a0) rfl (.int a1) rfl (.int a2) rfl (.int a3) rfl (.int a4) rfl (.retAddr 0) rfl hr hC
  · refine gBrF (p := q3 = 0) (y := 115) (is := List.drop 5 mC115) (L := [.ref a0, .int a1, .int a2, .int a3, .int a4, .retAddr 0]) (st := []) (μ := μ) (t := 28) rfl h26 ?_
    refine mGo.steps 1 (c' := (115, List.drop 6 mC115, [.ref a0, .int a1, .int a2, .int a3, .int a4, .retAddr 0], [.int a2], μ)) rfl ?_
    obtain ⟨q5, h6, hr⟩ := mBi hr
    refine mGo.call (z := 132) (as := [.int a2]) (y := 115) (is := List.drop 7 mC115) (L := [.ref a0, .int a1, .int a2, .int a3, .int a4, .retAddr 0]) (st := []) (μ := μ) rfl (t132 h6) ?_
    rcases mIte hr with ⟨h25, hr⟩ | ⟨h25, hr⟩
    · refine gBrT (p := q5 = 0) (y := 115) (is := List.drop 8 mC115) (L := [.ref a0, .int a1, .int a2, .int a3, .int a4, .retAddr 0]) (st := []) (μ := μ) (t := 28) rfl h25 ?_
      exact t115_13 μ a0 a1 a2 a3 a4 (.ref a0) rfl (.int a1) rfl (.int a2) rfl (.int a3) rfl (.int a4) rfl (.retAddr 0) rfl hr hC
    · refine gBrF (p := q5 = 0) (y := 115) (is := List.drop 8 mC115) (L := [.ref a0, .int a1, .int a2, .int a3, .int a4, .retAddr 0]) (st := []) (μ := μ) (t := 28) rfl h25 ?_
      refine mGo.steps 3 (c' := (115, List.drop 11 mC115, [.ref a0, .int a1, .int a2, .int a3, .int a4, .retAddr 0], [.int 3, .int 0, .int a4], μ)) rfl ?_
      obtain ⟨q7, h8, hr⟩ := mBi hr
      refine mGo.call (z := 131) (as := [.int a4, .int 0, .int 3]) (y := 115) (is := List.drop 12 mC115) (L := [.ref a0, .int a1, .int a2, .int a3, .int a4, .retAddr 0]) (st := []) (μ := μ) rfl (t131 h8) ?_
      rcases mIte hr with ⟨h24, hr⟩ | ⟨h24, hr⟩
      · refine gBrT (p := ¬ q7 = 0) (y := 115) (is := List.drop 13 mC115) (L := [.ref a0, .int a1, .int a2, .int a3, .int a4, .retAddr 0]) (st := []) (μ := μ) (t := 30) rfl h24 ?_
        refine mGo.steps 1 (c' := (115, List.drop 16 mC115, [.ref a0, .int a1, .int a2, .int a3, .int a4, .retAddr 0], [.ref a0], μ)) rfl ?_
        refine gGet (is := List.drop 17 mC115) (v := .ref (mP μ a0 1)) h1 rfl ?_
        refine gGet (is := List.drop 18 mC115) (v := .ref (mP μ (mP μ a0 1) 1)) h2 rfl ?_
        refine mGo.steps 1 (c' := (115, List.drop 19 mC115, [.ref a0, .int a1, .int a2, .int a3, .int a4, .retAddr 0], [.int a1, .ref (mP μ (mP μ a0 1) 1)], μ)) rfl ?_
        obtain ⟨h9, hr⟩ := mIf hr
        refine gAald (is := List.drop 20 mC115) h9 ?_
        refine mGo.steps 1 (c' := (115, List.drop 21 mC115, [.ref a0, .int a1, .int a2, .int a3, .int a4, .retAddr 0], [.int a2, .ref (mP μ (mP μ (mP μ a0 1) 1) (Int32.toNatClampNeg a1))], μ)) rfl ?_
        obtain ⟨h10, hr⟩ := mIf hr
        obtain ⟨q11, h12, hr⟩ := mBi hr
        refine gCall (z := 78) (n := 1) (f := 0) (kind := 1) (a := (mP μ (mP μ (mP μ a0 1) 1) (Int32.toNatClampNeg a1))) (As := [.int a2]) (y := 115) (is := List.drop 22 mC115) (L := [.ref a0, .int a1, .int a2, .int a3, .int a4, .retAddr 0]) (rest := []) (μ := μ) rfl (by decide) (by decide) ⟨rfl, rfl⟩ rfl h10 (Nat.le_of_ble_eq_true rfl) (Nat.le_of_ble_eq_true rfl) (t78 h12) ?_
        refine mGo.steps 3 (c' := (115, List.drop 25 mC115, [.ref a0, .int a1, .int a2, .int a3, .int a4, .ref q11], [.int a3, .ref q11], μ)) rfl ?_
        obtain ⟨h13, hr⟩ := mIf hr
        obtain ⟨q14, h15, hr⟩ := mBi hr
        refine gCall (z := 89) (n := 1) (f := 0) (kind := 1) (a := q11) (As := [.int a3]) (y := 115) (is := List.drop 26 mC115) (L := [.ref a0, .int a1, .int a2, .int a3, .int a4, .ref q11]) (rest := []) (μ := μ) rfl (by decide) (by decide) ⟨rfl, rfl⟩ rfl h13 (Nat.le_of_ble_eq_true rfl) (Nat.le_of_ble_eq_true rfl) (t89 h15) ?_
        rcases mIte hr with ⟨h23, hr⟩ | ⟨h23, hr⟩
        · refine gBrT (p := ¬ q14 = 0) (y := 115) (is := List.drop 27 mC115) (L := [.ref a0, .int a1, .int a2, .int a3, .int a4, .ref q11]) (st := []) (μ := μ) (t := 57) rfl h23 ?_
          refine mGo.steps 1 (c' := (115, List.drop 30 mC115, [.ref a0, .int a1, .int a2, .int a3, .int a4, .ref q11], [.int a4], μ)) rfl ?_
          refine mGo.steps 1 (c' := (115, mSeek (mTs a4 0 [84, 92, 100] 108) (rC (mG 115)), [.ref a0, .int a1, .int a2, .int a3, .int a4, .ref q11], [], μ)) rfl ?_
          rcases mIte hr with ⟨h17, hr⟩ | ⟨h17, hr⟩
          · refine gTs1 (w := 0) h17 rfl ?_
            refine mGo.steps 1 (c' := (115, List.drop 32 mC115, [.ref a0, .int a1, .int a2, .int a3, .int a4, .ref q11], [.ref q11], μ)) rfl ?_
            refine gGet (is := List.drop 33 mC115) (v := .ref (mP μ q11 4)) h13 rfl ?_
            refine mGo.steps 1 (c' := (115, List.drop 34 mC115, [.ref a0, .int a1, .int a2, .int a3, .int a4, .ref q11], [.int a3, .ref (mP μ q11 4)], μ)) rfl ?_
            obtain ⟨h16, hr⟩ := mIf hr
            refine gIald (is := List.drop 35 mC115) h16 ?_
            obtain rfl := Option.some.inj hr
            rw [show r = _ from hC]
            exact gIret rfl
          · refine gTs0 (w := 0) h17 rfl ?_
            rcases mIte hr with ⟨h19, hr⟩ | ⟨h19, hr⟩
            · refine gTs1 (w := 1) h19 rfl ?_
              refine mGo.steps 1 (c' := (115, List.drop 37 mC115, [.ref a0, .int a1, .int a2, .int a3, .int a4, .ref q11], [.ref q11], μ)) rfl ?_
              refine gGet (is := List.drop 38 mC115) (v := .ref (mP μ q11 5)) h13 rfl ?_
              refine mGo.steps 1 (c' := (115, List.drop 39 mC115, [.ref a0, .int a1, .int a2, .int a3, .int a4, .ref q11], [.int a3, .ref (mP μ q11 5)], μ)) rfl ?_
              obtain ⟨h18, hr⟩ := mIf hr
              refine gIald (is := List.drop 40 mC115) h18 ?_
              obtain rfl := Option.some.inj hr
              rw [show r = _ from hC]
              exact gIret rfl
            · refine gTs0 (w := 1) h19 rfl ?_
              rcases mIte hr with ⟨h21, hr⟩ | ⟨h21, hr⟩
              · refine gTs1 (w := 2) h21 rfl ?_
                refine mGo.steps 1 (c' := (115, List.drop 42 mC115, [.ref a0, .int a1, .int a2, .int a3, .int a4, .ref q11], [.ref q11], μ)) rfl ?_
                refine gGet (is := List.drop 43 mC115) (v := .ref (mP μ q11 6)) h13 rfl ?_
                refine mGo.steps 1 (c' := (115, List.drop 44 mC115, [.ref a0, .int a1, .int a2, .int a3, .int a4, .ref q11], [.int a3, .ref (mP μ q11 6)], μ)) rfl ?_
                obtain ⟨h20, hr⟩ := mIf hr
                refine gIald (is := List.drop 45 mC115) h20 ?_
                obtain rfl := Option.some.inj hr
                rw [show r = _ from hC]
                exact gIret rfl
              · refine gTs0 (w := 2) h21 rfl ?_
                refine mGo.steps 1 (c' := (115, List.drop 47 mC115, [.ref a0, .int a1, .int a2, .int a3, .int a4, .ref q11], [.ref q11], μ)) rfl ?_
                refine gGet (is := List.drop 48 mC115) (v := .ref (mP μ q11 7)) h13 rfl ?_
                refine mGo.steps 1 (c' := (115, List.drop 49 mC115, [.ref a0, .int a1, .int a2, .int a3, .int a4, .ref q11], [.int a3, .ref (mP μ q11 7)], μ)) rfl ?_
                obtain ⟨h22, hr⟩ := mIf hr
                refine gIald (is := List.drop 50 mC115) h22 ?_
                obtain rfl := Option.some.inj hr
                rw [show r = _ from hC]
                exact gIret rfl
        · refine gBrF (p := ¬ q14 = 0) (y := 115) (is := List.drop 27 mC115) (L := [.ref a0, .int a1, .int a2, .int a3, .int a4, .ref q11]) (st := []) (μ := μ) (t := 57) rfl h23 ?_
          refine mGo.steps 1 (c' := (115, List.drop 28 mC115, [.ref a0, .int a1, .int a2, .int a3, .int a4, .ref q11], [.int (-10)], μ)) rfl ?_
          obtain rfl := Option.some.inj hr
          rw [show r = _ from hC]
          exact gIret rfl
      · refine gBrF (p := ¬ q7 = 0) (y := 115) (is := List.drop 13 mC115) (L := [.ref a0, .int a1, .int a2, .int a3, .int a4, .retAddr 0]) (st := []) (μ := μ) (t := 30) rfl h24 ?_
        exact t115_13 μ a0 a1 a2 a3 a4 (.ref a0) rfl (.int a1) rfl (.int a2) rfl (.int a3) rfl (.int a4) rfl (.retAddr 0) rfl hr hC

/-! 116: TunnelFabric.cellCount(III)I -/
def s116_13 (μ : mM) (a0 : Nat) (a1 : Int32) (a2 : Int32) (a3 : Int32) : Option Int32 :=
  some (-1)
set_option maxRecDepth 20000 in
theorem t116_13 (μ : mM) (a0 : Nat) (a1 : Int32) (a2 : Int32) (a3 : Int32) (w0 : Value) (hw0 : mNotL w0 = true) (w1 : Value) (hw1 : mNotL w1 = true) (w2 : Value) (hw2 : mNotL w2 = true) (w3 : Value) (hw3 : mNotL w3 = true) (w4 : Value) (hw4 : mNotL w4 = true) {o : Int32} {r : Option Value × mM} (hr : s116_13 μ a0 a1 a2 a3 = some o) (hC : r = (some (.int o), μ)) : mGo mG (116, List.drop 13 mC116, [w0, w1, w2, w3, w4], [], μ) r := by
  unfold s116_13 at hr
  refine mGo.steps 1 (c' := (116, List.drop 14 mC116, [w0, w1, w2, w3, w4], [.int (-1)], μ)) rfl ?_
  obtain rfl := Option.some.inj hr
  rw [show r = _ from hC]
  exact gIret rfl
def s116 (μ : mM) (a0 : Nat) (a1 : Int32) (a2 : Int32) (a3 : Int32) : Option Int32 :=
  if (mS μ a0).1 = 8 then if (mS μ (mP μ a0 1)).1 = 1 then (s17 μ (mP μ a0 1) a1).bind fun q3 => if q3 = 0 then (s116_13 μ a0 a1 a2 a3) else ((s132 μ a2).bind fun q5 => if q5 = 0 then (s116_13 μ a0 a1 a2 a3) else ((s131 μ a3 0 2).bind fun q7 => if ¬ q7 = 0 then (if (mS μ (mP μ (mP μ a0 1) 1)).1 = 20 + 6 ∧ mInb a1 (mS μ (mP μ (mP μ a0 1) 1)).2 then if (mS μ (mP μ (mP μ (mP μ a0 1) 1) (Int32.toNatClampNeg a1))).1 = 6 then (s78 μ (mP μ (mP μ (mP μ a0 1) 1) (Int32.toNatClampNeg a1)) a2).bind fun q11 => if (mS μ q11).1 = 7 then if ¬ (mI μ q11 0) = 0 then (if a3 = 0 then (some (mI μ q11 2)) else (if a3 = 1 then ((s92 μ q11).bind fun q15 => some q15) else (some (mI μ q11 3)))) else (some (-10)) else none else none else none) else (s116_13 μ a0 a1 a2 a3))) else none else none
set_option maxRecDepth 20000 in
theorem t116 {μ : mM} {a0 : Nat} {a1 : Int32} {a2 : Int32} {a3 : Int32} {o : Int32} (hr : s116 μ a0 a1 a2 a3 = some o) : mEv mG 116 [.ref a0, .int a1, .int a2, .int a3] μ (some (.int o)) (μ) := by
  obtain ⟨r, hC⟩ : ∃ r : Option Value × mM, r = (some (.int o), μ) := ⟨_, rfl⟩
  show mGo mG (116, List.drop 0 mC116, [.ref a0, .int a1, .int a2, .int a3, .retAddr 0], [], μ) (some (.int o), μ)
  rw [← hC]
  unfold s116 at hr
  refine mGo.steps 1 (c' := (116, List.drop 1 mC116, [.ref a0, .int a1, .int a2, .int a3, .retAddr 0], [.ref a0], μ)) rfl ?_
  obtain ⟨h1, hr⟩ := mIf hr
  refine gGet (is := List.drop 2 mC116) (v := .ref (mP μ a0 1)) h1 rfl ?_
  refine mGo.steps 1 (c' := (116, List.drop 3 mC116, [.ref a0, .int a1, .int a2, .int a3, .retAddr 0], [.int a1, .ref (mP μ a0 1)], μ)) rfl ?_
  obtain ⟨h2, hr⟩ := mIf hr
  obtain ⟨q3, h4, hr⟩ := mBi hr
  refine gCall (z := 17) (n := 1) (f := 0) (kind := 1) (a := (mP μ a0 1)) (As := [.int a1]) (y := 116) (is := List.drop 4 mC116) (L := [.ref a0, .int a1, .int a2, .int a3, .retAddr 0]) (rest := []) (μ := μ) rfl (by decide) (by decide) ⟨rfl, rfl⟩ rfl h2 (Nat.le_of_ble_eq_true rfl) (Nat.le_of_ble_eq_true rfl) (t17 h4) ?_
  rcases mIte hr with ⟨h21, hr⟩ | ⟨h21, hr⟩
  · refine gBrT (p := q3 = 0) (y := 116) (is := List.drop 5 mC116) (L := [.ref a0, .int a1, .int a2, .int a3, .retAddr 0]) (st := []) (μ := μ) (t := 27) rfl h21 ?_
    exact t116_13 μ a0 a1 a2 a3 (.ref a0) rfl (.int a1) rfl (.int a2) rfl (.int a3) rfl (.retAddr 0) rfl hr hC
  · refine gBrF (p := q3 = 0) (y := 116) (is := List.drop 5 mC116) (L := [.ref a0, .int a1, .int a2, .int a3, .retAddr 0]) (st := []) (μ := μ) (t := 27) rfl h21 ?_
    refine mGo.steps 1 (c' := (116, List.drop 6 mC116, [.ref a0, .int a1, .int a2, .int a3, .retAddr 0], [.int a2], μ)) rfl ?_
    obtain ⟨q5, h6, hr⟩ := mBi hr
    refine mGo.call (z := 132) (as := [.int a2]) (y := 116) (is := List.drop 7 mC116) (L := [.ref a0, .int a1, .int a2, .int a3, .retAddr 0]) (st := []) (μ := μ) rfl (t132 h6) ?_
    rcases mIte hr with ⟨h20, hr⟩ | ⟨h20, hr⟩
    · refine gBrT (p := q5 = 0) (y := 116) (is := List.drop 8 mC116) (L := [.ref a0, .int a1, .int a2, .int a3, .retAddr 0]) (st := []) (μ := μ) (t := 27) rfl h20 ?_
      exact t116_13 μ a0 a1 a2 a3 (.ref a0) rfl (.int a1) rfl (.int a2) rfl (.int a3) rfl (.retAddr 0) rfl hr hC
    · refine gBrF (p := q5 = 0) (y := 116) (is := List.drop 8 mC116) (L := [.ref a0, .int a1, .int a2, .int a3, .retAddr 0]) (st := []) (μ := μ) (t := 27) rfl h20 ?_
      refine mGo.steps 3 (c' := (116, List.drop 11 mC116, [.ref a0, .int a1, .int a2, .int a3, .retAddr 0], [.int 2, .int 0, .int a3], μ)) rfl ?_
      obtain ⟨q7, h8, hr⟩ := mBi hr
      refine mGo.call (z := 131) (as := [.int a3, .int 0, .int 2]) (y := 116) (is := List.drop 12 mC116) (L := [.ref a0, .int a1, .int a2, .int a3, .retAddr 0]) (st := []) (μ := μ) rfl (t131 h8) ?_
      rcases mIte hr with ⟨h19, hr⟩ | ⟨h19, hr⟩
      · refine gBrT (p := ¬ q7 = 0) (y := 116) (is := List.drop 13 mC116) (L := [.ref a0, .int a1, .int a2, .int a3, .retAddr 0]) (st := []) (μ := μ) (t := 29) rfl h19 ?_
        refine mGo.steps 1 (c' := (116, List.drop 16 mC116, [.ref a0, .int a1, .int a2, .int a3, .retAddr 0], [.ref a0], μ)) rfl ?_
        refine gGet (is := List.drop 17 mC116) (v := .ref (mP μ a0 1)) h1 rfl ?_
        refine gGet (is := List.drop 18 mC116) (v := .ref (mP μ (mP μ a0 1) 1)) h2 rfl ?_
        refine mGo.steps 1 (c' := (116, List.drop 19 mC116, [.ref a0, .int a1, .int a2, .int a3, .retAddr 0], [.int a1, .ref (mP μ (mP μ a0 1) 1)], μ)) rfl ?_
        obtain ⟨h9, hr⟩ := mIf hr
        refine gAald (is := List.drop 20 mC116) h9 ?_
        refine mGo.steps 1 (c' := (116, List.drop 21 mC116, [.ref a0, .int a1, .int a2, .int a3, .retAddr 0], [.int a2, .ref (mP μ (mP μ (mP μ a0 1) 1) (Int32.toNatClampNeg a1))], μ)) rfl ?_
        obtain ⟨h10, hr⟩ := mIf hr
        obtain ⟨q11, h12, hr⟩ := mBi hr
        refine gCall (z := 78) (n := 1) (f := 0) (kind := 1) (a := (mP μ (mP μ (mP μ a0 1) 1) (Int32.toNatClampNeg a1))) (As := [.int a2]) (y := 116) (is := List.drop 22 mC116) (L := [.ref a0, .int a1, .int a2, .int a3, .retAddr 0]) (rest := []) (μ := μ) rfl (by decide) (by decide) ⟨rfl, rfl⟩ rfl h10 (Nat.le_of_ble_eq_true rfl) (Nat.le_of_ble_eq_true rfl) (t78 h12) ?_
        refine mGo.steps 2 (c' := (116, List.drop 24 mC116, [.ref a0, .int a1, .int a2, .int a3, .ref q11], [.ref q11], μ)) rfl ?_
        obtain ⟨h13, hr⟩ := mIf hr
        refine gGet (is := List.drop 25 mC116) (v := .int (mI μ q11 0)) h13 rfl ?_
        rcases mIte hr with ⟨h18, hr⟩ | ⟨h18, hr⟩
        · refine gBrT (p := ¬ (mI μ q11 0) = 0) (y := 116) (is := List.drop 26 mC116) (L := [.ref a0, .int a1, .int a2, .int a3, .ref q11]) (st := []) (μ := μ) (t := 55) rfl h18 ?_
          refine mGo.steps 1 (c' := (116, List.drop 29 mC116, [.ref a0, .int a1, .int a2, .int a3, .ref q11], [.int a3], μ)) rfl ?_
          refine mGo.steps 1 (c' := (116, mSeek (mLs a3 [(0, 28), (1, 34)] [84, 90] 96) (rC (mG 116)), [.ref a0, .int a1, .int a2, .int a3, .ref q11], [], μ)) rfl ?_
          rcases mIte hr with ⟨h14, hr⟩ | ⟨h14, hr⟩
          · refine gLs1 (w := 0) h14 rfl ?_
            refine mGo.steps 1 (c' := (116, List.drop 31 mC116, [.ref a0, .int a1, .int a2, .int a3, .ref q11], [.ref q11], μ)) rfl ?_
            refine gGet (is := List.drop 32 mC116) (v := .int (mI μ q11 2)) h13 rfl ?_
            obtain rfl := Option.some.inj hr
            rw [show r = _ from hC]
            exact gIret rfl
          · refine gLs0 (w := 0) h14 rfl ?_
            rcases mIte hr with ⟨h17, hr⟩ | ⟨h17, hr⟩
            · refine gLs1 (w := 1) h17 rfl ?_
              refine mGo.steps 1 (c' := (116, List.drop 34 mC116, [.ref a0, .int a1, .int a2, .int a3, .ref q11], [.ref q11], μ)) rfl ?_
              obtain ⟨q15, h16, hr⟩ := mBi hr
              refine gCall (z := 92) (n := 0) (f := 0) (kind := 1) (a := q11) (As := []) (y := 116) (is := List.drop 35 mC116) (L := [.ref a0, .int a1, .int a2, .int a3, .ref q11]) (rest := []) (μ := μ) rfl (by decide) (by decide) ⟨rfl, rfl⟩ rfl h13 (Nat.le_of_ble_eq_true rfl) (Nat.le_of_ble_eq_true rfl) (t92 h16) ?_
              obtain rfl := Option.some.inj hr
              rw [show r = _ from hC]
              exact gIret rfl
            · refine gLs0 (w := 1) h17 rfl ?_
              refine mGo.steps 1 (c' := (116, List.drop 37 mC116, [.ref a0, .int a1, .int a2, .int a3, .ref q11], [.ref q11], μ)) rfl ?_
              refine gGet (is := List.drop 38 mC116) (v := .int (mI μ q11 3)) h13 rfl ?_
              obtain rfl := Option.some.inj hr
              rw [show r = _ from hC]
              exact gIret rfl
        · refine gBrF (p := ¬ (mI μ q11 0) = 0) (y := 116) (is := List.drop 26 mC116) (L := [.ref a0, .int a1, .int a2, .int a3, .ref q11]) (st := []) (μ := μ) (t := 55) rfl h18 ?_
          refine mGo.steps 1 (c' := (116, List.drop 27 mC116, [.ref a0, .int a1, .int a2, .int a3, .ref q11], [.int (-10)], μ)) rfl ?_
          obtain rfl := Option.some.inj hr
          rw [show r = _ from hC]
          exact gIret rfl
      · refine gBrF (p := ¬ q7 = 0) (y := 116) (is := List.drop 13 mC116) (L := [.ref a0, .int a1, .int a2, .int a3, .retAddr 0]) (st := []) (μ := μ) (t := 29) rfl h19 ?_
        exact t116_13 μ a0 a1 a2 a3 (.ref a0) rfl (.int a1) rfl (.int a2) rfl (.int a3) rfl (.retAddr 0) rfl hr hC

/-! 117: TunnelFabric.tick(I)I -/
def s117L11 (p0 : Nat) (p1 : Int32) (s : Int32 × Int32 × mM) : Option ((Int32 × Int32 × mM) ⊕ ((Int32 × mM) ⊕ (Int32 × mM))) :=
  if p1 ≤ s.2.1 then (some (.inr (.inl (s.1, s.2.2)))) else (if (mS s.2.2 p0).1 = 8 then if (mS s.2.2 (mP s.2.2 p0 3)).1 = 0 then (s1 s.2.2 (mP s.2.2 p0 3) (mP s.2.2 p0 1)).bind fun q5 => some (.inl (s.1 + q5.1, s.2.1 + 1, q5.2)) else none else none)
set_option maxRecDepth 20000 in
theorem t117L11 (p0 : Nat) (p1 : Int32) {r : Option Value × mM} (s : Int32 × Int32 × mM) (o : ((Int32 × Int32 × mM) ⊕ ((Int32 × mM) ⊕ (Int32 × mM)))) (hr : s117L11 p0 p1 s = some o) (hC : Sum.elim (fun s' : Int32 × Int32 × mM => mGo mG (117, List.drop 11 mC117, [.ref p0, .int p1, .int s'.1, .int s'.2.1], [], s'.2.2) r) (Sum.elim (fun x : Int32 × mM => ∀ (w0 : Value) (hw0 : mNotL w0 = true) (w1 : Value) (hw1 : mNotL w1 = true) (w3 : Value) (hw3 : mNotL w3 = true), mGo mG (117, List.drop 24 mC117, [w0, w1, .int x.1, w3], [], x.2) r) (fun y : (Int32 × mM) => r = (some (.int y.1), y.2))) o) : mGo mG (117, List.drop 11 mC117, [.ref p0, .int p1, .int s.1, .int s.2.1], [], s.2.2) r := by
  unfold s117L11 at hr
  refine mGo.steps 2 (c' := (117, List.drop 13 mC117, [.ref p0, .int p1, .int s.1, .int s.2.1], [.int p1, .int s.2.1], s.2.2)) rfl ?_
  rcases mIte hr with ⟨h7, hr⟩ | ⟨h7, hr⟩
  · refine gBrT (p := p1 ≤ s.2.1) (y := 117) (is := List.drop 14 mC117) (L := [.ref p0, .int p1, .int s.1, .int s.2.1]) (st := []) (μ := s.2.2) (t := 41) rfl h7 ?_
    obtain rfl := Option.some.inj hr
    exact hC (.ref p0) rfl (.int p1) rfl (.int s.2.1) rfl
  · refine gBrF (p := p1 ≤ s.2.1) (y := 117) (is := List.drop 14 mC117) (L := [.ref p0, .int p1, .int s.1, .int s.2.1]) (st := []) (μ := s.2.2) (t := 41) rfl h7 ?_
    refine mGo.steps 2 (c' := (117, List.drop 16 mC117, [.ref p0, .int p1, .int s.1, .int s.2.1], [.ref p0, .int s.1], s.2.2)) rfl ?_
    obtain ⟨h3, hr⟩ := mIf hr
    refine gGet (is := List.drop 17 mC117) (v := .ref (mP s.2.2 p0 3)) h3 rfl ?_
    refine mGo.steps 1 (c' := (117, List.drop 18 mC117, [.ref p0, .int p1, .int s.1, .int s.2.1], [.ref p0, .ref (mP s.2.2 p0 3), .int s.1], s.2.2)) rfl ?_
    refine gGet (is := List.drop 19 mC117) (v := .ref (mP s.2.2 p0 1)) h3 rfl ?_
    obtain ⟨h4, hr⟩ := mIf hr
    obtain ⟨q5, h6, hr⟩ := mBi hr
    refine gCall (z := 1) (n := 1) (f := 0) (kind := 1) (a := (mP s.2.2 p0 3)) (As := [.ref (mP s.2.2 p0 1)]) (y := 117) (is := List.drop 20 mC117) (L := [.ref p0, .int p1, .int s.1, .int s.2.1]) (rest := [.int s.1]) (μ := s.2.2) rfl (by decide) (by decide) ⟨rfl, rfl⟩ rfl h4 (Nat.le_of_ble_eq_true rfl) (Nat.le_of_ble_eq_true rfl) (t1 h6) ?_
    refine mGo.steps 4 (c' := (117, List.drop 11 mC117, [.ref p0, .int p1, .int (s.1 + q5.1), .int (s.2.1 + 1)], [], q5.2)) rfl ?_
    obtain rfl := Option.some.inj hr
    exact hC
theorem t117L11l (p0 : Nat) (p1 : Int32) {r : Option Value × mM} (n : Nat) (s : Int32 × Int32 × mM) (o : (Int32 × mM) ⊕ (Int32 × mM)) (hr : mLoop (s117L11 p0 p1) n s = some o) (hC : Sum.elim (fun x : Int32 × mM => ∀ (w0 : Value) (hw0 : mNotL w0 = true) (w1 : Value) (hw1 : mNotL w1 = true) (w3 : Value) (hw3 : mNotL w3 = true), mGo mG (117, List.drop 24 mC117, [w0, w1, .int x.1, w3], [], x.2) r) (fun y : (Int32 × mM) => r = (some (.int y.1), y.2)) o) : mGo mG (117, List.drop 11 mC117, [.ref p0, .int p1, .int s.1, .int s.2.1], [], s.2.2) r :=
  mLoop_go (Hd := (fun s' : Int32 × Int32 × mM => mGo mG (117, List.drop 11 mC117, [.ref p0, .int p1, .int s'.1, .int s'.2.1], [], s'.2.2) r)) (fun s o hb hC => t117L11 p0 p1 s o hb hC) n s o hr hC
def s117 (μ : mM) (a0 : Nat) (a1 : Int32) : Option (Int32 × mM) :=
  (s131 μ a1 1 50).bind fun q1 => if ¬ q1 = 0 then ((mLoop (s117L11 a0 a1) 1000 (0, 0, μ)).bind fun o8 => Sum.elim (fun x9 => some (x9.1, x9.2)) (fun y10 => some y10) o8) else (some ((-1), μ))
set_option maxRecDepth 20000 in
theorem t117 {μ : mM} {a0 : Nat} {a1 : Int32} {o : (Int32 × mM)} (hr : s117 μ a0 a1 = some o) : mEv mG 117 [.ref a0, .int a1] μ (some (.int o.1)) (o.2) := by
  obtain ⟨r, hC⟩ : ∃ r : Option Value × mM, r = (some (.int o.1), o.2) := ⟨_, rfl⟩
  show mGo mG (117, List.drop 0 mC117, [.ref a0, .int a1, .retAddr 0, .retAddr 0], [], μ) (some (.int o.1), o.2)
  rw [← hC]
  unfold s117 at hr
  refine mGo.steps 3 (c' := (117, List.drop 3 mC117, [.ref a0, .int a1, .retAddr 0, .retAddr 0], [.int 50, .int 1, .int a1], μ)) rfl ?_
  obtain ⟨q1, h2, hr⟩ := mBi hr
  refine mGo.call (z := 131) (as := [.int a1, .int 1, .int 50]) (y := 117) (is := List.drop 4 mC117) (L := [.ref a0, .int a1, .retAddr 0, .retAddr 0]) (st := []) (μ := μ) rfl (t131 h2) ?_
  rcases mIte hr with ⟨h12, hr⟩ | ⟨h12, hr⟩
  · refine gBrT (p := ¬ q1 = 0) (y := 117) (is := List.drop 5 mC117) (L := [.ref a0, .int a1, .retAddr 0, .retAddr 0]) (st := []) (μ := μ) (t := 12) rfl h12 ?_
    refine mGo.steps 4 (c' := (117, List.drop 11 mC117, [.ref a0, .int a1, .int 0, .int 0], [], μ)) rfl ?_
    obtain ⟨o8, h11, hr⟩ := mBi hr
    refine t117L11l a0 a1 1000 (0, 0, μ) o8 h11 ?_ 
    cases o8 with
    | inl x9 =>
      show ∀ (w0 : Value) (hw0 : mNotL w0 = true) (w1 : Value) (hw1 : mNotL w1 = true) (w3 : Value) (hw3 : mNotL w3 = true), mGo mG (117, List.drop 24 mC117, [w0, w1, .int x9.1, w3], [], x9.2) r
      intro w0 hw0 w1 hw1 w3 hw3
      replace hr : (_) = some _ := hr
      refine mGo.steps 1 (c' := (117, List.drop 25 mC117, [w0, w1, .int x9.1, w3], [.int x9.1], x9.2)) rfl ?_
      obtain rfl := Option.some.inj hr
      rw [show r = _ from hC]
      exact gIret rfl
    | inr y10 =>
      obtain rfl := Option.some.inj hr
      exact hC
  · refine gBrF (p := ¬ q1 = 0) (y := 117) (is := List.drop 5 mC117) (L := [.ref a0, .int a1, .retAddr 0, .retAddr 0]) (st := []) (μ := μ) (t := 12) rfl h12 ?_
    refine mGo.steps 1 (c' := (117, List.drop 6 mC117, [.ref a0, .int a1, .retAddr 0, .retAddr 0], [.int (-1)], μ)) rfl ?_
    obtain rfl := Option.some.inj hr
    rw [show r = _ from hC]
    exact gIret rfl

/-! 118: TunnelFabric.setPatience(I)I -/
def s118 (μ : mM) (a0 : Nat) (a1 : Int32) : Option (Int32 × mM) :=
  (s131 μ a1 1 9).bind fun q1 => if ¬ q1 = 0 then (if (mS μ a0).1 = 8 then if (mS μ (mP μ a0 1)).1 = 1 then (some (mUI μ (mP μ a0 1) 2 a1)).bind fun μ5 => some (mI μ (mP μ a0 1) 2, μ5) else none else none) else (some ((-1), μ))
set_option maxRecDepth 20000 in
theorem t118 {μ : mM} {a0 : Nat} {a1 : Int32} {o : (Int32 × mM)} (hr : s118 μ a0 a1 = some o) : mEv mG 118 [.ref a0, .int a1] μ (some (.int o.1)) (o.2) := by
  obtain ⟨r, hC⟩ : ∃ r : Option Value × mM, r = (some (.int o.1), o.2) := ⟨_, rfl⟩
  show mGo mG (118, List.drop 0 mC118, [.ref a0, .int a1, .retAddr 0], [], μ) (some (.int o.1), o.2)
  rw [← hC]
  unfold s118 at hr
  refine mGo.steps 3 (c' := (118, List.drop 3 mC118, [.ref a0, .int a1, .retAddr 0], [.int 9, .int 1, .int a1], μ)) rfl ?_
  obtain ⟨q1, h2, hr⟩ := mBi hr
  refine mGo.call (z := 131) (as := [.int a1, .int 1, .int 9]) (y := 118) (is := List.drop 4 mC118) (L := [.ref a0, .int a1, .retAddr 0]) (st := []) (μ := μ) rfl (t131 h2) ?_
  rcases mIte hr with ⟨h6, hr⟩ | ⟨h6, hr⟩
  · refine gBrT (p := ¬ q1 = 0) (y := 118) (is := List.drop 5 mC118) (L := [.ref a0, .int a1, .retAddr 0]) (st := []) (μ := μ) (t := 12) rfl h6 ?_
    refine mGo.steps 1 (c' := (118, List.drop 8 mC118, [.ref a0, .int a1, .retAddr 0], [.ref a0], μ)) rfl ?_
    obtain ⟨h3, hr⟩ := mIf hr
    refine gGet (is := List.drop 9 mC118) (v := .ref (mP μ a0 1)) h3 rfl ?_
    obtain ⟨h4, hr⟩ := mIf hr
    refine gGet (is := List.drop 10 mC118) (v := .int (mI μ (mP μ a0 1) 2)) h4 rfl ?_
    refine mGo.steps 2 (c' := (118, List.drop 12 mC118, [.ref a0, .int a1, .int (mI μ (mP μ a0 1) 2)], [.ref a0], μ)) rfl ?_
    refine gGet (is := List.drop 13 mC118) (v := .ref (mP μ a0 1)) h3 rfl ?_
    refine mGo.steps 1 (c' := (118, List.drop 14 mC118, [.ref a0, .int a1, .int (mI μ (mP μ a0 1) 2)], [.int a1, .ref (mP μ a0 1)], μ)) rfl ?_
    replace hr := mBs hr
    refine gPut (is := List.drop 15 mC118) (μ' := mUI μ (mP μ a0 1) 2 a1) h4 rfl ?_
    let μ5 : mM := mUI μ (mP μ a0 1) 2 a1
    refine mGo.steps 1 (c' := (118, List.drop 16 mC118, [.ref a0, .int a1, .int (mI μ (mP μ a0 1) 2)], [.int (mI μ (mP μ a0 1) 2)], μ5)) rfl ?_
    obtain rfl := Option.some.inj hr
    rw [show r = _ from hC]
    exact gIret rfl
  · refine gBrF (p := ¬ q1 = 0) (y := 118) (is := List.drop 5 mC118) (L := [.ref a0, .int a1, .retAddr 0]) (st := []) (μ := μ) (t := 12) rfl h6 ?_
    refine mGo.steps 1 (c' := (118, List.drop 6 mC118, [.ref a0, .int a1, .retAddr 0], [.int (-1)], μ)) rfl ?_
    obtain rfl := Option.some.inj hr
    rw [show r = _ from hC]
    exact gIret rfl

/-! 119: TunnelFabric.fairShare(II)I -/
def s119_8 (a0 : Nat) (a1 : Int32) (a2 : Int32) (μ : mM) : Option (Int32 × mM) :=
  some ((-1), μ)
set_option maxRecDepth 20000 in
theorem t119_8 (a0 : Nat) (a1 : Int32) (a2 : Int32) (μ : mM) (w0 : Value) (hw0 : mNotL w0 = true) (w1 : Value) (hw1 : mNotL w1 = true) (w2 : Value) (hw2 : mNotL w2 = true) (w3 : Value) (hw3 : mNotL w3 = true) {o : (Int32 × mM)} {r : Option Value × mM} (hr : s119_8 a0 a1 a2 μ = some o) (hC : r = (some (.int o.1), o.2)) : mGo mG (119, List.drop 8 mC119, [w0, w1, w2, w3], [], μ) r := by
  unfold s119_8 at hr
  refine mGo.steps 1 (c' := (119, List.drop 9 mC119, [w0, w1, w2, w3], [.int (-1)], μ)) rfl ?_
  obtain rfl := Option.some.inj hr
  rw [show r = _ from hC]
  exact gIret rfl
def s119_28 (a0 : Nat) (a1 : Int32) (a2 : Int32) (μ : mM) (t0 : Int32) : Option (Int32 × mM) :=
  some (t0, μ)
set_option maxRecDepth 20000 in
theorem t119_28 (a0 : Nat) (a1 : Int32) (a2 : Int32) (μ : mM) (t0 : Int32) (w0 : Value) (hw0 : mNotL w0 = true) (w1 : Value) (hw1 : mNotL w1 = true) (w2 : Value) (hw2 : mNotL w2 = true) (w3 : Value) (hw3 : mNotL w3 = true) {o : (Int32 × mM)} {r : Option Value × mM} (hr : s119_28 a0 a1 a2 μ t0 = some o) (hC : r = (some (.int o.1), o.2)) : mGo mG (119, List.drop 28 mC119, [w0, w1, w2, w3], [.int t0], μ) r := by
  unfold s119_28 at hr
  obtain rfl := Option.some.inj hr
  rw [show r = _ from hC]
  exact gIret rfl
def s119 (μ : mM) (a0 : Nat) (a1 : Int32) (a2 : Int32) : Option (Int32 × mM) :=
  if (mS μ a0).1 = 8 then if (mS μ (mP μ a0 1)).1 = 1 then (s17 μ (mP μ a0 1) a1).bind fun q3 => if q3 = 0 then (s119_8 a0 a1 a2 μ) else ((s132 μ a2).bind fun q5 => if ¬ q5 = 0 then (if (mS μ (mP μ (mP μ a0 1) 1)).1 = 20 + 6 ∧ mInb a1 (mS μ (mP μ (mP μ a0 1) 1)).2 then if (mS μ (mP μ (mP μ (mP μ a0 1) 1) (Int32.toNatClampNeg a1))).1 = 6 then if ¬ (mI μ (mP μ (mP μ (mP μ a0 1) 1) (Int32.toNatClampNeg a1)) 1) = 0 then (if (mS μ (mP μ a0 4)).1 = 5 then (s72 μ (mP μ a0 4) (mP μ a0 1) a2).bind fun q10 => if (mS q10 a0).1 = 8 then if (mS q10 (mP q10 a0 4)).1 = 5 then if (mS q10 (mP q10 (mP q10 a0 4) 1)).1 = 11 ∧ mInb a1 (mS q10 (mP q10 (mP q10 a0 4) 1)).2 then (s142 q10 (mF q10 (mP q10 (mP q10 a0 4) 1) (Int32.toNatClampNeg a1))).bind fun q15 => some (q15, q10) else none else none else none else none) else (if ¬ a2 = 0 then ((s142 μ FP.fconst0).bind fun q17 => s119_28 a0 a1 a2 μ q17) else ((s142 μ (FP.i2f (mI μ (mP μ (mP μ (mP μ a0 1) 1) (Int32.toNatClampNeg a1)) 4))).bind fun q19 => s119_28 a0 a1 a2 μ q19)) else none else none) else (s119_8 a0 a1 a2 μ)) else none else none
set_option maxRecDepth 20000 in
theorem t119 {μ : mM} {a0 : Nat} {a1 : Int32} {a2 : Int32} {o : (Int32 × mM)} (hr : s119 μ a0 a1 a2 = some o) : mEv mG 119 [.ref a0, .int a1, .int a2] μ (some (.int o.1)) (o.2) := by
  obtain ⟨r, hC⟩ : ∃ r : Option Value × mM, r = (some (.int o.1), o.2) := ⟨_, rfl⟩
  show mGo mG (119, List.drop 0 mC119, [.ref a0, .int a1, .int a2, .retAddr 0], [], μ) (some (.int o.1), o.2)
  rw [← hC]
  unfold s119 at hr
  refine mGo.steps 1 (c' := (119, List.drop 1 mC119, [.ref a0, .int a1, .int a2, .retAddr 0], [.ref a0], μ)) rfl ?_
  obtain ⟨h1, hr⟩ := mIf hr
  refine gGet (is := List.drop 2 mC119) (v := .ref (mP μ a0 1)) h1 rfl ?_
  refine mGo.steps 1 (c' := (119, List.drop 3 mC119, [.ref a0, .int a1, .int a2, .retAddr 0], [.int a1, .ref (mP μ a0 1)], μ)) rfl ?_
  obtain ⟨h2, hr⟩ := mIf hr
  obtain ⟨q3, h4, hr⟩ := mBi hr
  refine gCall (z := 17) (n := 1) (f := 0) (kind := 1) (a := (mP μ a0 1)) (As := [.int a1]) (y := 119) (is := List.drop 4 mC119) (L := [.ref a0, .int a1, .int a2, .retAddr 0]) (rest := []) (μ := μ) rfl (by decide) (by decide) ⟨rfl, rfl⟩ rfl h2 (Nat.le_of_ble_eq_true rfl) (Nat.le_of_ble_eq_true rfl) (t17 h4) ?_
  rcases mIte hr with ⟨h24, hr⟩ | ⟨h24, hr⟩
  · refine gBrT (p := q3 = 0) (y := 119) (is := List.drop 5 mC119) (L := [.ref a0, .int a1, .int a2, .retAddr 0]) (st := []) (μ := μ) (t := 18) rfl h24 ?_
    exact t119_8 a0 a1 a2 μ (.ref a0) rfl (.int a1) rfl (.int a2) rfl (.retAddr 0) rfl hr hC
  · refine gBrF (p := q3 = 0) (y := 119) (is := List.drop 5 mC119) (L := [.ref a0, .int a1, .int a2, .retAddr 0]) (st := []) (μ := μ) (t := 18) rfl h24 ?_
    refine mGo.steps 1 (c' := (119, List.drop 6 mC119, [.ref a0, .int a1, .int a2, .retAddr 0], [.int a2], μ)) rfl ?_
    obtain ⟨q5, h6, hr⟩ := mBi hr
    refine mGo.call (z := 132) (as := [.int a2]) (y := 119) (is := List.drop 7 mC119) (L := [.ref a0, .int a1, .int a2, .retAddr 0]) (st := []) (μ := μ) rfl (t132 h6) ?_
    rcases mIte hr with ⟨h23, hr⟩ | ⟨h23, hr⟩
    · refine gBrT (p := ¬ q5 = 0) (y := 119) (is := List.drop 8 mC119) (L := [.ref a0, .int a1, .int a2, .retAddr 0]) (st := []) (μ := μ) (t := 20) rfl h23 ?_
      refine mGo.steps 1 (c' := (119, List.drop 11 mC119, [.ref a0, .int a1, .int a2, .retAddr 0], [.ref a0], μ)) rfl ?_
      refine gGet (is := List.drop 12 mC119) (v := .ref (mP μ a0 1)) h1 rfl ?_
      refine gGet (is := List.drop 13 mC119) (v := .ref (mP μ (mP μ a0 1) 1)) h2 rfl ?_
      refine mGo.steps 1 (c' := (119, List.drop 14 mC119, [.ref a0, .int a1, .int a2, .retAddr 0], [.int a1, .ref (mP μ (mP μ a0 1) 1)], μ)) rfl ?_
      obtain ⟨h7, hr⟩ := mIf hr
      refine gAald (is := List.drop 15 mC119) h7 ?_
      refine mGo.steps 2 (c' := (119, List.drop 17 mC119, [.ref a0, .int a1, .int a2, .ref (mP μ (mP μ (mP μ a0 1) 1) (Int32.toNatClampNeg a1))], [.ref (mP μ (mP μ (mP μ a0 1) 1) (Int32.toNatClampNeg a1))], μ)) rfl ?_
      obtain ⟨h8, hr⟩ := mIf hr
      refine gGet (is := List.drop 18 mC119) (v := .int (mI μ (mP μ (mP μ (mP μ a0 1) 1) (Int32.toNatClampNeg a1)) 1)) h8 rfl ?_
      rcases mIte hr with ⟨h22, hr⟩ | ⟨h22, hr⟩
      · refine gBrT (p := ¬ (mI μ (mP μ (mP μ (mP μ a0 1) 1) (Int32.toNatClampNeg a1)) 1) = 0) (y := 119) (is := List.drop 19 mC119) (L := [.ref a0, .int a1, .int a2, .ref (mP μ (mP μ (mP μ a0 1) 1) (Int32.toNatClampNeg a1))]) (st := []) (μ := μ) (t := 57) rfl h22 ?_
        refine mGo.steps 1 (c' := (119, List.drop 30 mC119, [.ref a0, .int a1, .int a2, .ref (mP μ (mP μ (mP μ a0 1) 1) (Int32.toNatClampNeg a1))], [.ref a0], μ)) rfl ?_
        refine gGet (is := List.drop 31 mC119) (v := .ref (mP μ a0 4)) h1 rfl ?_
        refine mGo.steps 1 (c' := (119, List.drop 32 mC119, [.ref a0, .int a1, .int a2, .ref (mP μ (mP μ (mP μ a0 1) 1) (Int32.toNatClampNeg a1))], [.ref a0, .ref (mP μ a0 4)], μ)) rfl ?_
        refine gGet (is := List.drop 33 mC119) (v := .ref (mP μ a0 1)) h1 rfl ?_
        refine mGo.steps 1 (c' := (119, List.drop 34 mC119, [.ref a0, .int a1, .int a2, .ref (mP μ (mP μ (mP μ a0 1) 1) (Int32.toNatClampNeg a1))], [.int a2, .ref (mP μ a0 1), .ref (mP μ a0 4)], μ)) rfl ?_
        obtain ⟨h9, hr⟩ := mIf hr
        obtain ⟨q10, h11, hr⟩ := mBi hr
        refine gCall (z := 72) (n := 2) (f := 0) (kind := 1) (a := (mP μ a0 4)) (As := [.ref (mP μ a0 1), .int a2]) (y := 119) (is := List.drop 35 mC119) (L := [.ref a0, .int a1, .int a2, .ref (mP μ (mP μ (mP μ a0 1) 1) (Int32.toNatClampNeg a1))]) (rest := []) (μ := μ) rfl (by decide) (by decide) ⟨rfl, rfl⟩ rfl h9 (Nat.le_of_ble_eq_true rfl) (Nat.le_of_ble_eq_true rfl) (t72 h11) ?_
        refine mGo.steps 1 (c' := (119, List.drop 36 mC119, [.ref a0, .int a1, .int a2, .ref (mP μ (mP μ (mP μ a0 1) 1) (Int32.toNatClampNeg a1))], [.ref a0], q10)) rfl ?_
        obtain ⟨h12, hr⟩ := mIf hr
        refine gGet (is := List.drop 37 mC119) (v := .ref (mP q10 a0 4)) h12 rfl ?_
        obtain ⟨h13, hr⟩ := mIf hr
        refine gGet (is := List.drop 38 mC119) (v := .ref (mP q10 (mP q10 a0 4) 1)) h13 rfl ?_
        refine mGo.steps 1 (c' := (119, List.drop 39 mC119, [.ref a0, .int a1, .int a2, .ref (mP μ (mP μ (mP μ a0 1) 1) (Int32.toNatClampNeg a1))], [.int a1, .ref (mP q10 (mP q10 a0 4) 1)], q10)) rfl ?_
        obtain ⟨h14, hr⟩ := mIf hr
        refine gFald (is := List.drop 40 mC119) h14 ?_
        obtain ⟨q15, h16, hr⟩ := mBi hr
        refine mGo.call (z := 142) (as := [.float (mF q10 (mP q10 (mP q10 a0 4) 1) (Int32.toNatClampNeg a1))]) (y := 119) (is := List.drop 41 mC119) (L := [.ref a0, .int a1, .int a2, .ref (mP μ (mP μ (mP μ a0 1) 1) (Int32.toNatClampNeg a1))]) (st := []) (μ := q10) rfl (t142 h16) ?_
        obtain rfl := Option.some.inj hr
        rw [show r = _ from hC]
        exact gIret rfl
      · refine gBrF (p := ¬ (mI μ (mP μ (mP μ (mP μ a0 1) 1) (Int32.toNatClampNeg a1)) 1) = 0) (y := 119) (is := List.drop 19 mC119) (L := [.ref a0, .int a1, .int a2, .ref (mP μ (mP μ (mP μ a0 1) 1) (Int32.toNatClampNeg a1))]) (st := []) (μ := μ) (t := 57) rfl h22 ?_
        refine mGo.steps 1 (c' := (119, List.drop 20 mC119, [.ref a0, .int a1, .int a2, .ref (mP μ (mP μ (mP μ a0 1) 1) (Int32.toNatClampNeg a1))], [.int a2], μ)) rfl ?_
        rcases mIte hr with ⟨h21, hr⟩ | ⟨h21, hr⟩
        · refine gBrT (p := ¬ a2 = 0) (y := 119) (is := List.drop 21 mC119) (L := [.ref a0, .int a1, .int a2, .ref (mP μ (mP μ (mP μ a0 1) 1) (Int32.toNatClampNeg a1))]) (st := []) (μ := μ) (t := 52) rfl h21 ?_
          refine mGo.steps 1 (c' := (119, List.drop 27 mC119, [.ref a0, .int a1, .int a2, .ref (mP μ (mP μ (mP μ a0 1) 1) (Int32.toNatClampNeg a1))], [.float FP.fconst0], μ)) rfl ?_
          obtain ⟨q17, h18, hr⟩ := mBi hr
          refine mGo.call (z := 142) (as := [.float FP.fconst0]) (y := 119) (is := List.drop 28 mC119) (L := [.ref a0, .int a1, .int a2, .ref (mP μ (mP μ (mP μ a0 1) 1) (Int32.toNatClampNeg a1))]) (st := []) (μ := μ) rfl (t142 h18) ?_
          exact t119_28 a0 a1 a2 μ q17 (.ref a0) rfl (.int a1) rfl (.int a2) rfl (.ref (mP μ (mP μ (mP μ a0 1) 1) (Int32.toNatClampNeg a1))) rfl hr hC
        · refine gBrF (p := ¬ a2 = 0) (y := 119) (is := List.drop 21 mC119) (L := [.ref a0, .int a1, .int a2, .ref (mP μ (mP μ (mP μ a0 1) 1) (Int32.toNatClampNeg a1))]) (st := []) (μ := μ) (t := 52) rfl h21 ?_
          refine mGo.steps 1 (c' := (119, List.drop 22 mC119, [.ref a0, .int a1, .int a2, .ref (mP μ (mP μ (mP μ a0 1) 1) (Int32.toNatClampNeg a1))], [.ref (mP μ (mP μ (mP μ a0 1) 1) (Int32.toNatClampNeg a1))], μ)) rfl ?_
          refine gGet (is := List.drop 23 mC119) (v := .int (mI μ (mP μ (mP μ (mP μ a0 1) 1) (Int32.toNatClampNeg a1)) 4)) h8 rfl ?_
          refine mGo.steps 1 (c' := (119, List.drop 24 mC119, [.ref a0, .int a1, .int a2, .ref (mP μ (mP μ (mP μ a0 1) 1) (Int32.toNatClampNeg a1))], [.float (FP.i2f (mI μ (mP μ (mP μ (mP μ a0 1) 1) (Int32.toNatClampNeg a1)) 4))], μ)) rfl ?_
          obtain ⟨q19, h20, hr⟩ := mBi hr
          refine mGo.call (z := 142) (as := [.float (FP.i2f (mI μ (mP μ (mP μ (mP μ a0 1) 1) (Int32.toNatClampNeg a1)) 4))]) (y := 119) (is := List.drop 25 mC119) (L := [.ref a0, .int a1, .int a2, .ref (mP μ (mP μ (mP μ a0 1) 1) (Int32.toNatClampNeg a1))]) (st := []) (μ := μ) rfl (t142 h20) ?_
          refine mGo.steps 1 (c' := (119, List.drop 28 mC119, [.ref a0, .int a1, .int a2, .ref (mP μ (mP μ (mP μ a0 1) 1) (Int32.toNatClampNeg a1))], [.int q19], μ)) rfl ?_
          exact t119_28 a0 a1 a2 μ q19 (.ref a0) rfl (.int a1) rfl (.int a2) rfl (.ref (mP μ (mP μ (mP μ a0 1) 1) (Int32.toNatClampNeg a1))) rfl hr hC
    · refine gBrF (p := ¬ q5 = 0) (y := 119) (is := List.drop 8 mC119) (L := [.ref a0, .int a1, .int a2, .retAddr 0]) (st := []) (μ := μ) (t := 20) rfl h23 ?_
      exact t119_8 a0 a1 a2 μ (.ref a0) rfl (.int a1) rfl (.int a2) rfl (.retAddr 0) rfl hr hC

/-! 120: TunnelFabric.room(I)I -/
def s120_11 (μ : mM) (a0 : Nat) (a1 : Int32) (t0 : Int32) : Option Int32 :=
  some t0
set_option maxRecDepth 20000 in
theorem t120_11 (μ : mM) (a0 : Nat) (a1 : Int32) (t0 : Int32) (w0 : Value) (hw0 : mNotL w0 = true) (w1 : Value) (hw1 : mNotL w1 = true) {o : Int32} {r : Option Value × mM} (hr : s120_11 μ a0 a1 t0 = some o) (hC : r = (some (.int o), μ)) : mGo mG (120, List.drop 11 mC120, [w0, w1], [.int t0], μ) r := by
  unfold s120_11 at hr
  obtain rfl := Option.some.inj hr
  rw [show r = _ from hC]
  exact gIret rfl
def s120 (μ : mM) (a0 : Nat) (a1 : Int32) : Option Int32 :=
  if (mS μ a0).1 = 8 then if (mS μ (mP μ a0 1)).1 = 1 then (s14 μ (mP μ a0 1) a1).bind fun q3 => if q3 = 0 then (s120_11 μ a0 a1 (-1)) else ((s31 μ (mP μ a0 1) a1).bind fun q5 => s120_11 μ a0 a1 q5) else none else none
set_option maxRecDepth 20000 in
theorem t120 {μ : mM} {a0 : Nat} {a1 : Int32} {o : Int32} (hr : s120 μ a0 a1 = some o) : mEv mG 120 [.ref a0, .int a1] μ (some (.int o)) (μ) := by
  obtain ⟨r, hC⟩ : ∃ r : Option Value × mM, r = (some (.int o), μ) := ⟨_, rfl⟩
  show mGo mG (120, List.drop 0 mC120, [.ref a0, .int a1], [], μ) (some (.int o), μ)
  rw [← hC]
  unfold s120 at hr
  refine mGo.steps 1 (c' := (120, List.drop 1 mC120, [.ref a0, .int a1], [.ref a0], μ)) rfl ?_
  obtain ⟨h1, hr⟩ := mIf hr
  refine gGet (is := List.drop 2 mC120) (v := .ref (mP μ a0 1)) h1 rfl ?_
  refine mGo.steps 1 (c' := (120, List.drop 3 mC120, [.ref a0, .int a1], [.int a1, .ref (mP μ a0 1)], μ)) rfl ?_
  obtain ⟨h2, hr⟩ := mIf hr
  obtain ⟨q3, h4, hr⟩ := mBi hr
  refine gCall (z := 14) (n := 1) (f := 0) (kind := 1) (a := (mP μ a0 1)) (As := [.int a1]) (y := 120) (is := List.drop 4 mC120) (L := [.ref a0, .int a1]) (rest := []) (μ := μ) rfl (by decide) (by decide) ⟨rfl, rfl⟩ rfl h2 (Nat.le_of_ble_eq_true rfl) (Nat.le_of_ble_eq_true rfl) (t14 h4) ?_
  rcases mIte hr with ⟨h7, hr⟩ | ⟨h7, hr⟩
  · refine gBrT (p := q3 = 0) (y := 120) (is := List.drop 5 mC120) (L := [.ref a0, .int a1]) (st := []) (μ := μ) (t := 22) rfl h7 ?_
    refine mGo.steps 1 (c' := (120, List.drop 11 mC120, [.ref a0, .int a1], [.int (-1)], μ)) rfl ?_
    exact t120_11 μ a0 a1 (-1) (.ref a0) rfl (.int a1) rfl hr hC
  · refine gBrF (p := q3 = 0) (y := 120) (is := List.drop 5 mC120) (L := [.ref a0, .int a1]) (st := []) (μ := μ) (t := 22) rfl h7 ?_
    refine mGo.steps 1 (c' := (120, List.drop 6 mC120, [.ref a0, .int a1], [.ref a0], μ)) rfl ?_
    refine gGet (is := List.drop 7 mC120) (v := .ref (mP μ a0 1)) h1 rfl ?_
    refine mGo.steps 1 (c' := (120, List.drop 8 mC120, [.ref a0, .int a1], [.int a1, .ref (mP μ a0 1)], μ)) rfl ?_
    obtain ⟨q5, h6, hr⟩ := mBi hr
    refine gCall (z := 31) (n := 1) (f := 0) (kind := 1) (a := (mP μ a0 1)) (As := [.int a1]) (y := 120) (is := List.drop 9 mC120) (L := [.ref a0, .int a1]) (rest := []) (μ := μ) rfl (by decide) (by decide) ⟨rfl, rfl⟩ rfl h2 (Nat.le_of_ble_eq_true rfl) (Nat.le_of_ble_eq_true rfl) (t31 h6) ?_
    refine mGo.steps 1 (c' := (120, List.drop 11 mC120, [.ref a0, .int a1], [.int q5], μ)) rfl ?_
    exact t120_11 μ a0 a1 q5 (.ref a0) rfl (.int a1) rfl hr hC

/-! 121: TunnelFabric.bestPort(I)I -/
def s121L15_62 (μ : mM) (p0 : Nat) (p1 : Int32) (v2 : Int32) (v3 : Int32) (v4 : Int32) (v5 : Int32) : Option ((Int32 × Int32 × Int32 × Int32) ⊕ ((Int32) ⊕ Int32)) :=
  some (.inl (v2, v3, v4, v5 + 1))
set_option maxRecDepth 20000 in
theorem t121L15_62 (μ : mM) (p0 : Nat) (p1 : Int32) (v2 : Int32) (v3 : Int32) (v4 : Int32) (v5 : Int32) (w6 : Value) (hw6 : mNotL w6 = true) (w7 : Value) (hw7 : mNotL w7 = true) (w8 : Value) (hw8 : mNotL w8 = true) {o : ((Int32 × Int32 × Int32 × Int32) ⊕ ((Int32) ⊕ Int32))} {r : Option Value × mM} (hr : s121L15_62 μ p0 p1 v2 v3 v4 v5 = some o) (hC : Sum.elim (fun s' : Int32 × Int32 × Int32 × Int32 => ∀ (w6 : Value) (hw6 : mNotL w6 = true) (w7 : Value) (hw7 : mNotL w7 = true) (w8 : Value) (hw8 : mNotL w8 = true), mGo mG (121, List.drop 15 mC121, [.ref p0, .int p1, .int s'.1, .int s'.2.1, .int s'.2.2.1, .int s'.2.2.2, w6, w7, w8], [], μ) r) (Sum.elim (fun x : Int32 => ∀ (w0 : Value) (hw0 : mNotL w0 = true) (w1 : Value) (hw1 : mNotL w1 = true) (w3 : Value) (hw3 : mNotL w3 = true) (w4 : Value) (hw4 : mNotL w4 = true) (w5 : Value) (hw5 : mNotL w5 = true) (w6 : Value) (hw6 : mNotL w6 = true) (w7 : Value) (hw7 : mNotL w7 = true) (w8 : Value) (hw8 : mNotL w8 = true), mGo mG (121, List.drop 64 mC121, [w0, w1, .int x, w3, w4, w5, w6, w7, w8], [], μ) r) (fun y : Int32 => r = (some (.int y), μ))) o) : mGo mG (121, List.drop 62 mC121, [.ref p0, .int p1, .int v2, .int v3, .int v4, .int v5, w6, w7, w8], [], μ) r := by
  unfold s121L15_62 at hr
  refine mGo.steps 2 (c' := (121, List.drop 15 mC121, [.ref p0, .int p1, .int v2, .int v3, .int v4, .int (v5 + 1), w6, w7, w8], [], μ)) rfl ?_
  obtain rfl := Option.some.inj hr
  exact hC w6 hw6 w7 hw7 w8 hw8
def s121L15_52 (μ : mM) (p0 : Nat) (p1 : Int32) (v5 : Int32) (v6 : Int32) (v7 : Int32) (v8 : Int32) : Option ((Int32 × Int32 × Int32 × Int32) ⊕ ((Int32) ⊕ Int32)) :=
  s121L15_62 μ p0 p1 ((8 * v5) + v6) v8 v7 v5
set_option maxRecDepth 20000 in
theorem t121L15_52 (μ : mM) (p0 : Nat) (p1 : Int32) (v5 : Int32) (v6 : Int32) (v7 : Int32) (v8 : Int32) (w2 : Value) (hw2 : mNotL w2 = true) (w3 : Value) (hw3 : mNotL w3 = true) (w4 : Value) (hw4 : mNotL w4 = true) {o : ((Int32 × Int32 × Int32 × Int32) ⊕ ((Int32) ⊕ Int32))} {r : Option Value × mM} (hr : s121L15_52 μ p0 p1 v5 v6 v7 v8 = some o) (hC : Sum.elim (fun s' : Int32 × Int32 × Int32 × Int32 => ∀ (w6 : Value) (hw6 : mNotL w6 = true) (w7 : Value) (hw7 : mNotL w7 = true) (w8 : Value) (hw8 : mNotL w8 = true), mGo mG (121, List.drop 15 mC121, [.ref p0, .int p1, .int s'.1, .int s'.2.1, .int s'.2.2.1, .int s'.2.2.2, w6, w7, w8], [], μ) r) (Sum.elim (fun x : Int32 => ∀ (w0 : Value) (hw0 : mNotL w0 = true) (w1 : Value) (hw1 : mNotL w1 = true) (w3 : Value) (hw3 : mNotL w3 = true) (w4 : Value) (hw4 : mNotL w4 = true) (w5 : Value) (hw5 : mNotL w5 = true) (w6 : Value) (hw6 : mNotL w6 = true) (w7 : Value) (hw7 : mNotL w7 = true) (w8 : Value) (hw8 : mNotL w8 = true), mGo mG (121, List.drop 64 mC121, [w0, w1, .int x, w3, w4, w5, w6, w7, w8], [], μ) r) (fun y : Int32 => r = (some (.int y), μ))) o) : mGo mG (121, List.drop 52 mC121, [.ref p0, .int p1, w2, w3, w4, .int v5, .int v6, .int v7, .int v8], [], μ) r := by
  unfold s121L15_52 at hr
  refine mGo.steps 10 (c' := (121, List.drop 62 mC121, [.ref p0, .int p1, .int ((8 * v5) + v6), .int v8, .int v7, .int v5, .int v6, .int v7, .int v8], [], μ)) rfl ?_
  exact t121L15_62 μ p0 p1 ((8 * v5) + v6) v8 v7 v5 (.int v6) rfl (.int v7) rfl (.int v8) rfl hr hC
def s121L15 (μ : mM) (p0 : Nat) (p1 : Int32) (s : Int32 × Int32 × Int32 × Int32) : Option ((Int32 × Int32 × Int32 × Int32) ⊕ ((Int32) ⊕ Int32)) :=
  if 8 ≤ s.2.2.2 then (some (.inr (.inl s.1))) else (if (mS μ p0).1 = 8 then if (mS μ (mP μ p0 1)).1 = 1 then (s24 μ (mP μ p0 1) s.2.2.2).bind fun q5 => if ¬ q5 = (-1) then (if (mS μ (mP μ (mP μ p0 1) 0)).1 = 20 + 4 ∧ mInb s.2.2.2 (mS μ (mP μ (mP μ p0 1) 0)).2 then if (mS μ (mP μ (mP μ (mP μ p0 1) 0) (Int32.toNatClampNeg s.2.2.2))).1 = 4 then (s32 μ (mP μ p0 1) s.2.2.2 p1).bind fun q9 => if s.1 = (-10) then (s121L15_52 μ p0 p1 s.2.2.2 q5 (mI μ (mP μ (mP μ (mP μ p0 1) 0) (Int32.toNatClampNeg s.2.2.2)) 5) q9) else (if s.2.1 < q9 then (s121L15_52 μ p0 p1 s.2.2.2 q5 (mI μ (mP μ (mP μ (mP μ p0 1) 0) (Int32.toNatClampNeg s.2.2.2)) 5) q9) else (if ¬ q9 = s.2.1 then (s121L15_62 μ p0 p1 s.1 s.2.1 s.2.2.1 s.2.2.2) else (if s.2.2.1 ≤ (mI μ (mP μ (mP μ (mP μ p0 1) 0) (Int32.toNatClampNeg s.2.2.2)) 5) then (s121L15_62 μ p0 p1 s.1 s.2.1 s.2.2.1 s.2.2.2) else (s121L15_52 μ p0 p1 s.2.2.2 q5 (mI μ (mP μ (mP μ (mP μ p0 1) 0) (Int32.toNatClampNeg s.2.2.2)) 5) q9)))) else none else none) else (s121L15_62 μ p0 p1 s.1 s.2.1 s.2.2.1 s.2.2.2) else none else none)
set_option maxRecDepth 20000 in
theorem t121L15 (μ : mM) (p0 : Nat) (p1 : Int32) {r : Option Value × mM} (s : Int32 × Int32 × Int32 × Int32) (o : ((Int32 × Int32 × Int32 × Int32) ⊕ ((Int32) ⊕ Int32))) (hr : s121L15 μ p0 p1 s = some o) (hC : Sum.elim (fun s' : Int32 × Int32 × Int32 × Int32 => ∀ (w6 : Value) (hw6 : mNotL w6 = true) (w7 : Value) (hw7 : mNotL w7 = true) (w8 : Value) (hw8 : mNotL w8 = true), mGo mG (121, List.drop 15 mC121, [.ref p0, .int p1, .int s'.1, .int s'.2.1, .int s'.2.2.1, .int s'.2.2.2, w6, w7, w8], [], μ) r) (Sum.elim (fun x : Int32 => ∀ (w0 : Value) (hw0 : mNotL w0 = true) (w1 : Value) (hw1 : mNotL w1 = true) (w3 : Value) (hw3 : mNotL w3 = true) (w4 : Value) (hw4 : mNotL w4 = true) (w5 : Value) (hw5 : mNotL w5 = true) (w6 : Value) (hw6 : mNotL w6 = true) (w7 : Value) (hw7 : mNotL w7 = true) (w8 : Value) (hw8 : mNotL w8 = true), mGo mG (121, List.drop 64 mC121, [w0, w1, .int x, w3, w4, w5, w6, w7, w8], [], μ) r) (fun y : Int32 => r = (some (.int y), μ))) o) : ∀ (w6 : Value) (hw6 : mNotL w6 = true) (w7 : Value) (hw7 : mNotL w7 = true) (w8 : Value) (hw8 : mNotL w8 = true), mGo mG (121, List.drop 15 mC121, [.ref p0, .int p1, .int s.1, .int s.2.1, .int s.2.2.1, .int s.2.2.2, w6, w7, w8], [], μ) r := by
  intro w6 hw6 w7 hw7 w8 hw8
  unfold s121L15 at hr
  refine mGo.steps 2 (c' := (121, List.drop 17 mC121, [.ref p0, .int p1, .int s.1, .int s.2.1, .int s.2.2.1, .int s.2.2.2, w6, w7, w8], [.int 8, .int s.2.2.2], μ)) rfl ?_
  rcases mIte hr with ⟨h16, hr⟩ | ⟨h16, hr⟩
  · refine gBrT (p := 8 ≤ s.2.2.2) (y := 121) (is := List.drop 18 mC121) (L := [.ref p0, .int p1, .int s.1, .int s.2.1, .int s.2.2.1, .int s.2.2.2, w6, w7, w8]) (st := []) (μ := μ) (t := 123) rfl h16 ?_
    obtain rfl := Option.some.inj hr
    exact hC (.ref p0) rfl (.int p1) rfl (.int s.2.1) rfl (.int s.2.2.1) rfl (.int s.2.2.2) rfl w6 hw6 w7 hw7 w8 hw8
  · refine gBrF (p := 8 ≤ s.2.2.2) (y := 121) (is := List.drop 18 mC121) (L := [.ref p0, .int p1, .int s.1, .int s.2.1, .int s.2.2.1, .int s.2.2.2, w6, w7, w8]) (st := []) (μ := μ) (t := 123) rfl h16 ?_
    refine mGo.steps 1 (c' := (121, List.drop 19 mC121, [.ref p0, .int p1, .int s.1, .int s.2.1, .int s.2.2.1, .int s.2.2.2, w6, w7, w8], [.ref p0], μ)) rfl ?_
    obtain ⟨h3, hr⟩ := mIf hr
    refine gGet (is := List.drop 20 mC121) (v := .ref (mP μ p0 1)) h3 rfl ?_
    refine mGo.steps 1 (c' := (121, List.drop 21 mC121, [.ref p0, .int p1, .int s.1, .int s.2.1, .int s.2.2.1, .int s.2.2.2, w6, w7, w8], [.int s.2.2.2, .ref (mP μ p0 1)], μ)) rfl ?_
    obtain ⟨h4, hr⟩ := mIf hr
    obtain ⟨q5, h6, hr⟩ := mBi hr
    refine gCall (z := 24) (n := 1) (f := 0) (kind := 1) (a := (mP μ p0 1)) (As := [.int s.2.2.2]) (y := 121) (is := List.drop 22 mC121) (L := [.ref p0, .int p1, .int s.1, .int s.2.1, .int s.2.2.1, .int s.2.2.2, w6, w7, w8]) (rest := []) (μ := μ) rfl (by decide) (by decide) ⟨rfl, rfl⟩ rfl h4 (Nat.le_of_ble_eq_true rfl) (Nat.le_of_ble_eq_true rfl) (t24 h6) ?_
    refine mGo.steps 3 (c' := (121, List.drop 25 mC121, [.ref p0, .int p1, .int s.1, .int s.2.1, .int s.2.2.1, .int s.2.2.2, .int q5, w7, w8], [.int (-1), .int q5], μ)) rfl ?_
    rcases mIte hr with ⟨h15, hr⟩ | ⟨h15, hr⟩
    · refine gBrT (p := ¬ q5 = (-1)) (y := 121) (is := List.drop 26 mC121) (L := [.ref p0, .int p1, .int s.1, .int s.2.1, .int s.2.2.1, .int s.2.2.2, .int q5, w7, w8]) (st := []) (μ := μ) (t := 49) rfl h15 ?_
      refine mGo.steps 1 (c' := (121, List.drop 28 mC121, [.ref p0, .int p1, .int s.1, .int s.2.1, .int s.2.2.1, .int s.2.2.2, .int q5, w7, w8], [.ref p0], μ)) rfl ?_
      refine gGet (is := List.drop 29 mC121) (v := .ref (mP μ p0 1)) h3 rfl ?_
      refine gGet (is := List.drop 30 mC121) (v := .ref (mP μ (mP μ p0 1) 0)) h4 rfl ?_
      refine mGo.steps 1 (c' := (121, List.drop 31 mC121, [.ref p0, .int p1, .int s.1, .int s.2.1, .int s.2.2.1, .int s.2.2.2, .int q5, w7, w8], [.int s.2.2.2, .ref (mP μ (mP μ p0 1) 0)], μ)) rfl ?_
      obtain ⟨h7, hr⟩ := mIf hr
      refine gAald (is := List.drop 32 mC121) h7 ?_
      obtain ⟨h8, hr⟩ := mIf hr
      refine gGet (is := List.drop 33 mC121) (v := .int (mI μ (mP μ (mP μ (mP μ p0 1) 0) (Int32.toNatClampNeg s.2.2.2)) 5)) h8 rfl ?_
      refine mGo.steps 2 (c' := (121, List.drop 35 mC121, [.ref p0, .int p1, .int s.1, .int s.2.1, .int s.2.2.1, .int s.2.2.2, .int q5, .int (mI μ (mP μ (mP μ (mP μ p0 1) 0) (Int32.toNatClampNeg s.2.2.2)) 5), w8], [.ref p0], μ)) rfl ?_
      refine gGet (is := List.drop 36 mC121) (v := .ref (mP μ p0 1)) h3 rfl ?_
      refine mGo.steps 2 (c' := (121, List.drop 38 mC121, [.ref p0, .int p1, .int s.1, .int s.2.1, .int s.2.2.1, .int s.2.2.2, .int q5, .int (mI μ (mP μ (mP μ (mP μ p0 1) 0) (Int32.toNatClampNeg s.2.2.2)) 5), w8], [.int p1, .int s.2.2.2, .ref (mP μ p0 1)], μ)) rfl ?_
      obtain ⟨q9, h10, hr⟩ := mBi hr
      refine gCall (z := 32) (n := 2) (f := 0) (kind := 1) (a := (mP μ p0 1)) (As := [.int s.2.2.2, .int p1]) (y := 121) (is := List.drop 39 mC121) (L := [.ref p0, .int p1, .int s.1, .int s.2.1, .int s.2.2.1, .int s.2.2.2, .int q5, .int (mI μ (mP μ (mP μ (mP μ p0 1) 0) (Int32.toNatClampNeg s.2.2.2)) 5), w8]) (rest := []) (μ := μ) rfl (by decide) (by decide) ⟨rfl, rfl⟩ rfl h4 (Nat.le_of_ble_eq_true rfl) (Nat.le_of_ble_eq_true rfl) (t32 h10) ?_
      refine mGo.steps 3 (c' := (121, List.drop 42 mC121, [.ref p0, .int p1, .int s.1, .int s.2.1, .int s.2.2.1, .int s.2.2.2, .int q5, .int (mI μ (mP μ (mP μ (mP μ p0 1) 0) (Int32.toNatClampNeg s.2.2.2)) 5), .int q9], [.int (-10), .int s.1], μ)) rfl ?_
      rcases mIte hr with ⟨h14, hr⟩ | ⟨h14, hr⟩
      · refine gBrT (p := s.1 = (-10)) (y := 121) (is := List.drop 43 mC121) (L := [.ref p0, .int p1, .int s.1, .int s.2.1, .int s.2.2.1, .int s.2.2.2, .int q5, .int (mI μ (mP μ (mP μ (mP μ p0 1) 0) (Int32.toNatClampNeg s.2.2.2)) 5), .int q9]) (st := []) (μ := μ) (t := 101) rfl h14 ?_
        exact t121L15_52 μ p0 p1 s.2.2.2 q5 (mI μ (mP μ (mP μ (mP μ p0 1) 0) (Int32.toNatClampNeg s.2.2.2)) 5) q9 (.int s.1) rfl (.int s.2.1) rfl (.int s.2.2.1) rfl hr hC
      · refine gBrF (p := s.1 = (-10)) (y := 121) (is := List.drop 43 mC121) (L := [.ref p0, .int p1, .int s.1, .int s.2.1, .int s.2.2.1, .int s.2.2.2, .int q5, .int (mI μ (mP μ (mP μ (mP μ p0 1) 0) (Int32.toNatClampNeg s.2.2.2)) 5), .int q9]) (st := []) (μ := μ) (t := 101) rfl h14 ?_
        refine mGo.steps 2 (c' := (121, List.drop 45 mC121, [.ref p0, .int p1, .int s.1, .int s.2.1, .int s.2.2.1, .int s.2.2.2, .int q5, .int (mI μ (mP μ (mP μ (mP μ p0 1) 0) (Int32.toNatClampNeg s.2.2.2)) 5), .int q9], [.int s.2.1, .int q9], μ)) rfl ?_
        rcases mIte hr with ⟨h13, hr⟩ | ⟨h13, hr⟩
        · refine gBrT (p := s.2.1 < q9) (y := 121) (is := List.drop 46 mC121) (L := [.ref p0, .int p1, .int s.1, .int s.2.1, .int s.2.2.1, .int s.2.2.2, .int q5, .int (mI μ (mP μ (mP μ (mP μ p0 1) 0) (Int32.toNatClampNeg s.2.2.2)) 5), .int q9]) (st := []) (μ := μ) (t := 101) rfl h13 ?_
          exact t121L15_52 μ p0 p1 s.2.2.2 q5 (mI μ (mP μ (mP μ (mP μ p0 1) 0) (Int32.toNatClampNeg s.2.2.2)) 5) q9 (.int s.1) rfl (.int s.2.1) rfl (.int s.2.2.1) rfl hr hC
        · refine gBrF (p := s.2.1 < q9) (y := 121) (is := List.drop 46 mC121) (L := [.ref p0, .int p1, .int s.1, .int s.2.1, .int s.2.2.1, .int s.2.2.2, .int q5, .int (mI μ (mP μ (mP μ (mP μ p0 1) 0) (Int32.toNatClampNeg s.2.2.2)) 5), .int q9]) (st := []) (μ := μ) (t := 101) rfl h13 ?_
          refine mGo.steps 2 (c' := (121, List.drop 48 mC121, [.ref p0, .int p1, .int s.1, .int s.2.1, .int s.2.2.1, .int s.2.2.2, .int q5, .int (mI μ (mP μ (mP μ (mP μ p0 1) 0) (Int32.toNatClampNeg s.2.2.2)) 5), .int q9], [.int s.2.1, .int q9], μ)) rfl ?_
          rcases mIte hr with ⟨h12, hr⟩ | ⟨h12, hr⟩
          · refine gBrT (p := ¬ q9 = s.2.1) (y := 121) (is := List.drop 49 mC121) (L := [.ref p0, .int p1, .int s.1, .int s.2.1, .int s.2.2.1, .int s.2.2.2, .int q5, .int (mI μ (mP μ (mP μ (mP μ p0 1) 0) (Int32.toNatClampNeg s.2.2.2)) 5), .int q9]) (st := []) (μ := μ) (t := 117) rfl h12 ?_
            exact t121L15_62 μ p0 p1 s.1 s.2.1 s.2.2.1 s.2.2.2 (.int q5) rfl (.int (mI μ (mP μ (mP μ (mP μ p0 1) 0) (Int32.toNatClampNeg s.2.2.2)) 5)) rfl (.int q9) rfl hr hC
          · refine gBrF (p := ¬ q9 = s.2.1) (y := 121) (is := List.drop 49 mC121) (L := [.ref p0, .int p1, .int s.1, .int s.2.1, .int s.2.2.1, .int s.2.2.2, .int q5, .int (mI μ (mP μ (mP μ (mP μ p0 1) 0) (Int32.toNatClampNeg s.2.2.2)) 5), .int q9]) (st := []) (μ := μ) (t := 117) rfl h12 ?_
            refine mGo.steps 2 (c' := (121, List.drop 51 mC121, [.ref p0, .int p1, .int s.1, .int s.2.1, .int s.2.2.1, .int s.2.2.2, .int q5, .int (mI μ (mP μ (mP μ (mP μ p0 1) 0) (Int32.toNatClampNeg s.2.2.2)) 5), .int q9], [.int s.2.2.1, .int (mI μ (mP μ (mP μ (mP μ p0 1) 0) (Int32.toNatClampNeg s.2.2.2)) 5)], μ)) rfl ?_
            rcases mIte hr with ⟨h11, hr⟩ | ⟨h11, hr⟩
            · refine gBrT (p := s.2.2.1 ≤ (mI μ (mP μ (mP μ (mP μ p0 1) 0) (Int32.toNatClampNeg s.2.2.2)) 5)) (y := 121) (is := List.drop 52 mC121) (L := [.ref p0, .int p1, .int s.1, .int s.2.1, .int s.2.2.1, .int s.2.2.2, .int q5, .int (mI μ (mP μ (mP μ (mP μ p0 1) 0) (Int32.toNatClampNeg s.2.2.2)) 5), .int q9]) (st := []) (μ := μ) (t := 117) rfl h11 ?_
              exact t121L15_62 μ p0 p1 s.1 s.2.1 s.2.2.1 s.2.2.2 (.int q5) rfl (.int (mI μ (mP μ (mP μ (mP μ p0 1) 0) (Int32.toNatClampNeg s.2.2.2)) 5)) rfl (.int q9) rfl hr hC
            · refine gBrF (p := s.2.2.1 ≤ (mI μ (mP μ (mP μ (mP μ p0 1) 0) (Int32.toNatClampNeg s.2.2.2)) 5)) (y := 121) (is := List.drop 52 mC121) (L := [.ref p0, .int p1, .int s.1, .int s.2.1, .int s.2.2.1, .int s.2.2.2, .int q5, .int (mI μ (mP μ (mP μ (mP μ p0 1) 0) (Int32.toNatClampNeg s.2.2.2)) 5), .int q9]) (st := []) (μ := μ) (t := 117) rfl h11 ?_
              exact t121L15_52 μ p0 p1 s.2.2.2 q5 (mI μ (mP μ (mP μ (mP μ p0 1) 0) (Int32.toNatClampNeg s.2.2.2)) 5) q9 (.int s.1) rfl (.int s.2.1) rfl (.int s.2.2.1) rfl hr hC
    · refine gBrF (p := ¬ q5 = (-1)) (y := 121) (is := List.drop 26 mC121) (L := [.ref p0, .int p1, .int s.1, .int s.2.1, .int s.2.2.1, .int s.2.2.2, .int q5, w7, w8]) (st := []) (μ := μ) (t := 49) rfl h15 ?_
      refine mGo.steps 1 (c' := (121, List.drop 62 mC121, [.ref p0, .int p1, .int s.1, .int s.2.1, .int s.2.2.1, .int s.2.2.2, .int q5, w7, w8], [], μ)) rfl ?_
      exact t121L15_62 μ p0 p1 s.1 s.2.1 s.2.2.1 s.2.2.2 (.int q5) rfl w7 hw7 w8 hw8 hr hC
theorem t121L15l (μ : mM) (p0 : Nat) (p1 : Int32) {r : Option Value × mM} (n : Nat) (s : Int32 × Int32 × Int32 × Int32) (o : (Int32) ⊕ Int32) (hr : mLoop (s121L15 μ p0 p1) n s = some o) (hC : Sum.elim (fun x : Int32 => ∀ (w0 : Value) (hw0 : mNotL w0 = true) (w1 : Value) (hw1 : mNotL w1 = true) (w3 : Value) (hw3 : mNotL w3 = true) (w4 : Value) (hw4 : mNotL w4 = true) (w5 : Value) (hw5 : mNotL w5 = true) (w6 : Value) (hw6 : mNotL w6 = true) (w7 : Value) (hw7 : mNotL w7 = true) (w8 : Value) (hw8 : mNotL w8 = true), mGo mG (121, List.drop 64 mC121, [w0, w1, .int x, w3, w4, w5, w6, w7, w8], [], μ) r) (fun y : Int32 => r = (some (.int y), μ)) o) : ∀ (w6 : Value) (hw6 : mNotL w6 = true) (w7 : Value) (hw7 : mNotL w7 = true) (w8 : Value) (hw8 : mNotL w8 = true), mGo mG (121, List.drop 15 mC121, [.ref p0, .int p1, .int s.1, .int s.2.1, .int s.2.2.1, .int s.2.2.2, w6, w7, w8], [], μ) r :=
  mLoop_go (Hd := (fun s' : Int32 × Int32 × Int32 × Int32 => ∀ (w6 : Value) (hw6 : mNotL w6 = true) (w7 : Value) (hw7 : mNotL w7 = true) (w8 : Value) (hw8 : mNotL w8 = true), mGo mG (121, List.drop 15 mC121, [.ref p0, .int p1, .int s'.1, .int s'.2.1, .int s'.2.2.1, .int s'.2.2.2, w6, w7, w8], [], μ) r)) (fun s o hb hC => t121L15 μ p0 p1 s o hb hC) n s o hr hC
def s121 (μ : mM) (a0 : Nat) (a1 : Int32) : Option Int32 :=
  (s131 μ a1 1 3).bind fun q1 => if ¬ q1 = 0 then ((mLoop (s121L15 μ a0 a1) 1000 ((-10), 0, 0, 0)).bind fun o17 => Sum.elim (fun x18 => some x18) (fun y19 => some y19) o17) else (some (-1))
set_option maxRecDepth 20000 in
theorem t121 {μ : mM} {a0 : Nat} {a1 : Int32} {o : Int32} (hr : s121 μ a0 a1 = some o) : mEv mG 121 [.ref a0, .int a1] μ (some (.int o)) (μ) := by
  obtain ⟨r, hC⟩ : ∃ r : Option Value × mM, r = (some (.int o), μ) := ⟨_, rfl⟩
  show mGo mG (121, List.drop 0 mC121, [.ref a0, .int a1, .retAddr 0, .retAddr 0, .retAddr 0, .retAddr 0, .retAddr 0, .retAddr 0, .retAddr 0], [], μ) (some (.int o), μ)
  rw [← hC]
  unfold s121 at hr
  refine mGo.steps 3 (c' := (121, List.drop 3 mC121, [.ref a0, .int a1, .retAddr 0, .retAddr 0, .retAddr 0, .retAddr 0, .retAddr 0, .retAddr 0, .retAddr 0], [.int 3, .int 1, .int a1], μ)) rfl ?_
  obtain ⟨q1, h2, hr⟩ := mBi hr
  refine mGo.call (z := 131) (as := [.int a1, .int 1, .int 3]) (y := 121) (is := List.drop 4 mC121) (L := [.ref a0, .int a1, .retAddr 0, .retAddr 0, .retAddr 0, .retAddr 0, .retAddr 0, .retAddr 0, .retAddr 0]) (st := []) (μ := μ) rfl (t131 h2) ?_
  rcases mIte hr with ⟨h21, hr⟩ | ⟨h21, hr⟩
  · refine gBrT (p := ¬ q1 = 0) (y := 121) (is := List.drop 5 mC121) (L := [.ref a0, .int a1, .retAddr 0, .retAddr 0, .retAddr 0, .retAddr 0, .retAddr 0, .retAddr 0, .retAddr 0]) (st := []) (μ := μ) (t := 11) rfl h21 ?_
    refine mGo.steps 8 (c' := (121, List.drop 15 mC121, [.ref a0, .int a1, .int (-10), .int 0, .int 0, .int 0, .retAddr 0, .retAddr 0, .retAddr 0], [], μ)) rfl ?_
    obtain ⟨o17, h20, hr⟩ := mBi hr
    refine t121L15l μ a0 a1 1000 ((-10), 0, 0, 0) o17 h20 ?_ (.retAddr 0) rfl (.retAddr 0) rfl (.retAddr 0) rfl
    cases o17 with
    | inl x18 =>
      show ∀ (w0 : Value) (hw0 : mNotL w0 = true) (w1 : Value) (hw1 : mNotL w1 = true) (w3 : Value) (hw3 : mNotL w3 = true) (w4 : Value) (hw4 : mNotL w4 = true) (w5 : Value) (hw5 : mNotL w5 = true) (w6 : Value) (hw6 : mNotL w6 = true) (w7 : Value) (hw7 : mNotL w7 = true) (w8 : Value) (hw8 : mNotL w8 = true), mGo mG (121, List.drop 64 mC121, [w0, w1, .int x18, w3, w4, w5, w6, w7, w8], [], μ) r
      intro w0 hw0 w1 hw1 w3 hw3 w4 hw4 w5 hw5 w6 hw6 w7 hw7 w8 hw8
      replace hr : (_) = some _ := hr
      refine mGo.steps 1 (c' := (121, List.drop 65 mC121, [w0, w1, .int x18, w3, w4, w5, w6, w7, w8], [.int x18], μ)) rfl ?_
      obtain rfl := Option.some.inj hr
      rw [show r = _ from hC]
      exact gIret rfl
    | inr y19 =>
      obtain rfl := Option.some.inj hr
      exact hC
  · refine gBrF (p := ¬ q1 = 0) (y := 121) (is := List.drop 5 mC121) (L := [.ref a0, .int a1, .retAddr 0, .retAddr 0, .retAddr 0, .retAddr 0, .retAddr 0, .retAddr 0, .retAddr 0]) (st := []) (μ := μ) (t := 11) rfl h21 ?_
    refine mGo.steps 1 (c' := (121, List.drop 6 mC121, [.ref a0, .int a1, .retAddr 0, .retAddr 0, .retAddr 0, .retAddr 0, .retAddr 0, .retAddr 0, .retAddr 0], [.int (-1)], μ)) rfl ?_
    obtain rfl := Option.some.inj hr
    rw [show r = _ from hC]
    exact gIret rfl

/-! 122: TunnelFabric.gain(I)I -/
def s122L9 (p0 : Nat) (p1 : Int32) (s : Int32 × mM) : Option ((Int32 × mM) ⊕ ((mM) ⊕ (Int32 × mM))) :=
  if 10 ≤ s.1 then (some (.inr (.inl s.2))) else (if (mS s.2 p0).1 = 8 then if (mS s.2 (mP s.2 p0 1)).1 = 1 then if (mS s.2 (mP s.2 (mP s.2 p0 1) 1)).1 = 20 + 6 ∧ mInb s.1 (mS s.2 (mP s.2 (mP s.2 p0 1) 1)).2 then if (mS s.2 (mP s.2 (mP s.2 (mP s.2 p0 1) 1) (Int32.toNatClampNeg s.1))).1 = 6 then if (mS s.2 (mP s.2 p0 5)).1 = 10 ∧ mInb s.1 (mS s.2 (mP s.2 p0 5)).2 then (some (mUI s.2 (mP s.2 p0 5) (Int32.toNatClampNeg s.1) (mI s.2 (mP s.2 (mP s.2 (mP s.2 p0 1) 1) (Int32.toNatClampNeg s.1)) 4))).bind fun μ10 => some (.inl (s.1 + 1, μ10)) else none else none else none else none else none)
set_option maxRecDepth 20000 in
theorem t122L9 (p0 : Nat) (p1 : Int32) {r : Option Value × mM} (s : Int32 × mM) (o : ((Int32 × mM) ⊕ ((mM) ⊕ (Int32 × mM)))) (hr : s122L9 p0 p1 s = some o) (hC : Sum.elim (fun s' : Int32 × mM => ∀ (w3 : Value) (hw3 : mNotL w3 = true), mGo mG (122, List.drop 9 mC122, [.ref p0, .int p1, .int s'.1, w3], [], s'.2) r) (Sum.elim (fun x : mM => ∀ (w2 : Value) (hw2 : mNotL w2 = true) (w3 : Value) (hw3 : mNotL w3 = true), mGo mG (122, List.drop 24 mC122, [.ref p0, .int p1, w2, w3], [], x) r) (fun y : (Int32 × mM) => r = (some (.int y.1), y.2))) o) : ∀ (w3 : Value) (hw3 : mNotL w3 = true), mGo mG (122, List.drop 9 mC122, [.ref p0, .int p1, .int s.1, w3], [], s.2) r := by
  intro w3 hw3
  unfold s122L9 at hr
  refine mGo.steps 2 (c' := (122, List.drop 11 mC122, [.ref p0, .int p1, .int s.1, w3], [.int 10, .int s.1], s.2)) rfl ?_
  rcases mIte hr with ⟨h11, hr⟩ | ⟨h11, hr⟩
  · refine gBrT (p := 10 ≤ s.1) (y := 122) (is := List.drop 12 mC122) (L := [.ref p0, .int p1, .int s.1, w3]) (st := []) (μ := s.2) (t := 45) rfl h11 ?_
    obtain rfl := Option.some.inj hr
    exact hC (.int s.1) rfl w3 hw3
  · refine gBrF (p := 10 ≤ s.1) (y := 122) (is := List.drop 12 mC122) (L := [.ref p0, .int p1, .int s.1, w3]) (st := []) (μ := s.2) (t := 45) rfl h11 ?_
    refine mGo.steps 1 (c' := (122, List.drop 13 mC122, [.ref p0, .int p1, .int s.1, w3], [.ref p0], s.2)) rfl ?_
    obtain ⟨h5, hr⟩ := mIf hr
    refine gGet (is := List.drop 14 mC122) (v := .ref (mP s.2 p0 5)) h5 rfl ?_
    refine mGo.steps 2 (c' := (122, List.drop 16 mC122, [.ref p0, .int p1, .int s.1, w3], [.ref p0, .int s.1, .ref (mP s.2 p0 5)], s.2)) rfl ?_
    refine gGet (is := List.drop 17 mC122) (v := .ref (mP s.2 p0 1)) h5 rfl ?_
    obtain ⟨h6, hr⟩ := mIf hr
    refine gGet (is := List.drop 18 mC122) (v := .ref (mP s.2 (mP s.2 p0 1) 1)) h6 rfl ?_
    refine mGo.steps 1 (c' := (122, List.drop 19 mC122, [.ref p0, .int p1, .int s.1, w3], [.int s.1, .ref (mP s.2 (mP s.2 p0 1) 1), .int s.1, .ref (mP s.2 p0 5)], s.2)) rfl ?_
    obtain ⟨h7, hr⟩ := mIf hr
    refine gAald (is := List.drop 20 mC122) h7 ?_
    obtain ⟨h8, hr⟩ := mIf hr
    refine gGet (is := List.drop 21 mC122) (v := .int (mI s.2 (mP s.2 (mP s.2 (mP s.2 p0 1) 1) (Int32.toNatClampNeg s.1)) 4)) h8 rfl ?_
    obtain ⟨h9, hr⟩ := mIf hr
    replace hr := mBs hr
    refine gIast (is := List.drop 22 mC122) h9 ?_
    let μ10 : mM := mUI s.2 (mP s.2 p0 5) (Int32.toNatClampNeg s.1) (mI s.2 (mP s.2 (mP s.2 (mP s.2 p0 1) 1) (Int32.toNatClampNeg s.1)) 4)
    refine mGo.steps 2 (c' := (122, List.drop 9 mC122, [.ref p0, .int p1, .int (s.1 + 1), w3], [], μ10)) rfl ?_
    obtain rfl := Option.some.inj hr
    exact hC w3 hw3
theorem t122L9l (p0 : Nat) (p1 : Int32) {r : Option Value × mM} (n : Nat) (s : Int32 × mM) (o : (mM) ⊕ (Int32 × mM)) (hr : mLoop (s122L9 p0 p1) n s = some o) (hC : Sum.elim (fun x : mM => ∀ (w2 : Value) (hw2 : mNotL w2 = true) (w3 : Value) (hw3 : mNotL w3 = true), mGo mG (122, List.drop 24 mC122, [.ref p0, .int p1, w2, w3], [], x) r) (fun y : (Int32 × mM) => r = (some (.int y.1), y.2)) o) : ∀ (w3 : Value) (hw3 : mNotL w3 = true), mGo mG (122, List.drop 9 mC122, [.ref p0, .int p1, .int s.1, w3], [], s.2) r :=
  mLoop_go (Hd := (fun s' : Int32 × mM => ∀ (w3 : Value) (hw3 : mNotL w3 = true), mGo mG (122, List.drop 9 mC122, [.ref p0, .int p1, .int s'.1, w3], [], s'.2) r)) (fun s o hb hC => t122L9 p0 p1 s o hb hC) n s o hr hC
def s122L45 (p0 : Nat) (s : Int32 × Int32 × mM) : Option ((Int32 × Int32 × mM) ⊕ ((Int32 × mM) ⊕ (Int32 × mM))) :=
  if 10 ≤ s.2.1 then (some (.inr (.inl (s.1, s.2.2)))) else (if (mS s.2.2 p0).1 = 8 then if (mS s.2.2 (mP s.2.2 p0 1)).1 = 1 then if (mS s.2.2 (mP s.2.2 (mP s.2.2 p0 1) 1)).1 = 20 + 6 ∧ mInb s.2.1 (mS s.2.2 (mP s.2.2 (mP s.2.2 p0 1) 1)).2 then if (mS s.2.2 (mP s.2.2 (mP s.2.2 (mP s.2.2 p0 1) 1) (Int32.toNatClampNeg s.2.1))).1 = 6 then if (mS s.2.2 (mP s.2.2 p0 5)).1 = 10 ∧ mInb s.2.1 (mS s.2.2 (mP s.2.2 p0 5)).2 then (some (mUI s.2.2 (mP s.2.2 (mP s.2.2 (mP s.2.2 p0 1) 1) (Int32.toNatClampNeg s.2.1)) 4 (mI s.2.2 (mP s.2.2 p0 5) (Int32.toNatClampNeg s.2.1)))).bind fun μ34 => some (.inl (s.1 + ((mI s.2.2 (mP s.2.2 (mP s.2.2 (mP s.2.2 p0 1) 1) (Int32.toNatClampNeg s.2.1)) 4) - (mI s.2.2 (mP s.2.2 p0 5) (Int32.toNatClampNeg s.2.1))), s.2.1 + 1, μ34)) else none else none else none else none else none)
set_option maxRecDepth 20000 in
theorem t122L45 (p0 : Nat) {r : Option Value × mM} (s : Int32 × Int32 × mM) (o : ((Int32 × Int32 × mM) ⊕ ((Int32 × mM) ⊕ (Int32 × mM)))) (hr : s122L45 p0 s = some o) (hC : Sum.elim (fun s' : Int32 × Int32 × mM => ∀ (w1 : Value) (hw1 : mNotL w1 = true), mGo mG (122, List.drop 45 mC122, [.ref p0, w1, .int s'.1, .int s'.2.1], [], s'.2.2) r) (Sum.elim (fun x : Int32 × mM => ∀ (w0 : Value) (hw0 : mNotL w0 = true) (w1 : Value) (hw1 : mNotL w1 = true) (w3 : Value) (hw3 : mNotL w3 = true), mGo mG (122, List.drop 74 mC122, [w0, w1, .int x.1, w3], [], x.2) r) (fun y : (Int32 × mM) => r = (some (.int y.1), y.2))) o) : ∀ (w1 : Value) (hw1 : mNotL w1 = true), mGo mG (122, List.drop 45 mC122, [.ref p0, w1, .int s.1, .int s.2.1], [], s.2.2) r := by
  intro w1 hw1
  unfold s122L45 at hr
  refine mGo.steps 2 (c' := (122, List.drop 47 mC122, [.ref p0, w1, .int s.1, .int s.2.1], [.int 10, .int s.2.1], s.2.2)) rfl ?_
  rcases mIte hr with ⟨h35, hr⟩ | ⟨h35, hr⟩
  · refine gBrT (p := 10 ≤ s.2.1) (y := 122) (is := List.drop 48 mC122) (L := [.ref p0, w1, .int s.1, .int s.2.1]) (st := []) (μ := s.2.2) (t := 134) rfl h35 ?_
    obtain rfl := Option.some.inj hr
    exact hC (.ref p0) rfl w1 hw1 (.int s.2.1) rfl
  · refine gBrF (p := 10 ≤ s.2.1) (y := 122) (is := List.drop 48 mC122) (L := [.ref p0, w1, .int s.1, .int s.2.1]) (st := []) (μ := s.2.2) (t := 134) rfl h35 ?_
    refine mGo.steps 2 (c' := (122, List.drop 50 mC122, [.ref p0, w1, .int s.1, .int s.2.1], [.ref p0, .int s.1], s.2.2)) rfl ?_
    obtain ⟨h29, hr⟩ := mIf hr
    refine gGet (is := List.drop 51 mC122) (v := .ref (mP s.2.2 p0 1)) h29 rfl ?_
    obtain ⟨h30, hr⟩ := mIf hr
    refine gGet (is := List.drop 52 mC122) (v := .ref (mP s.2.2 (mP s.2.2 p0 1) 1)) h30 rfl ?_
    refine mGo.steps 1 (c' := (122, List.drop 53 mC122, [.ref p0, w1, .int s.1, .int s.2.1], [.int s.2.1, .ref (mP s.2.2 (mP s.2.2 p0 1) 1), .int s.1], s.2.2)) rfl ?_
    obtain ⟨h31, hr⟩ := mIf hr
    refine gAald (is := List.drop 54 mC122) h31 ?_
    obtain ⟨h32, hr⟩ := mIf hr
    refine gGet (is := List.drop 55 mC122) (v := .int (mI s.2.2 (mP s.2.2 (mP s.2.2 (mP s.2.2 p0 1) 1) (Int32.toNatClampNeg s.2.1)) 4)) h32 rfl ?_
    refine mGo.steps 1 (c' := (122, List.drop 56 mC122, [.ref p0, w1, .int s.1, .int s.2.1], [.ref p0, .int (mI s.2.2 (mP s.2.2 (mP s.2.2 (mP s.2.2 p0 1) 1) (Int32.toNatClampNeg s.2.1)) 4), .int s.1], s.2.2)) rfl ?_
    refine gGet (is := List.drop 57 mC122) (v := .ref (mP s.2.2 p0 5)) h29 rfl ?_
    refine mGo.steps 1 (c' := (122, List.drop 58 mC122, [.ref p0, w1, .int s.1, .int s.2.1], [.int s.2.1, .ref (mP s.2.2 p0 5), .int (mI s.2.2 (mP s.2.2 (mP s.2.2 (mP s.2.2 p0 1) 1) (Int32.toNatClampNeg s.2.1)) 4), .int s.1], s.2.2)) rfl ?_
    obtain ⟨h33, hr⟩ := mIf hr
    refine gIald (is := List.drop 59 mC122) h33 ?_
    refine mGo.steps 2 (c' := (122, List.drop 61 mC122, [.ref p0, w1, .int s.1, .int s.2.1], [.int (s.1 + ((mI s.2.2 (mP s.2.2 (mP s.2.2 (mP s.2.2 p0 1) 1) (Int32.toNatClampNeg s.2.1)) 4) - (mI s.2.2 (mP s.2.2 p0 5) (Int32.toNatClampNeg s.2.1))))], s.2.2)) rfl ?_
    refine gSt1 (L := [.ref p0, w1, .int s.1, .int s.2.1]) (q := 2) (w := .int (s.1 + ((mI s.2.2 (mP s.2.2 (mP s.2.2 (mP s.2.2 p0 1) 1) (Int32.toNatClampNeg s.2.1)) 4) - (mI s.2.2 (mP s.2.2 p0 5) (Int32.toNatClampNeg s.2.1))))) (is := List.drop 62 mC122) (st := []) (μ := s.2.2) rfl (Nat.le_of_ble_eq_true rfl) hw1 ?_
    refine mGo.steps 1 (c' := (122, List.drop 63 mC122, [.ref p0, w1, .int (s.1 + ((mI s.2.2 (mP s.2.2 (mP s.2.2 (mP s.2.2 p0 1) 1) (Int32.toNatClampNeg s.2.1)) 4) - (mI s.2.2 (mP s.2.2 p0 5) (Int32.toNatClampNeg s.2.1)))), .int s.2.1], [.ref p0], s.2.2)) rfl ?_
    refine gGet (is := List.drop 64 mC122) (v := .ref (mP s.2.2 p0 1)) h29 rfl ?_
    refine gGet (is := List.drop 65 mC122) (v := .ref (mP s.2.2 (mP s.2.2 p0 1) 1)) h30 rfl ?_
    refine mGo.steps 1 (c' := (122, List.drop 66 mC122, [.ref p0, w1, .int (s.1 + ((mI s.2.2 (mP s.2.2 (mP s.2.2 (mP s.2.2 p0 1) 1) (Int32.toNatClampNeg s.2.1)) 4) - (mI s.2.2 (mP s.2.2 p0 5) (Int32.toNatClampNeg s.2.1)))), .int s.2.1], [.int s.2.1, .ref (mP s.2.2 (mP s.2.2 p0 1) 1)], s.2.2)) rfl ?_
    refine gAald (is := List.drop 67 mC122) h31 ?_
    refine mGo.steps 1 (c' := (122, List.drop 68 mC122, [.ref p0, w1, .int (s.1 + ((mI s.2.2 (mP s.2.2 (mP s.2.2 (mP s.2.2 p0 1) 1) (Int32.toNatClampNeg s.2.1)) 4) - (mI s.2.2 (mP s.2.2 p0 5) (Int32.toNatClampNeg s.2.1)))), .int s.2.1], [.ref p0, .ref (mP s.2.2 (mP s.2.2 (mP s.2.2 p0 1) 1) (Int32.toNatClampNeg s.2.1))], s.2.2)) rfl ?_
    refine gGet (is := List.drop 69 mC122) (v := .ref (mP s.2.2 p0 5)) h29 rfl ?_
    refine mGo.steps 1 (c' := (122, List.drop 70 mC122, [.ref p0, w1, .int (s.1 + ((mI s.2.2 (mP s.2.2 (mP s.2.2 (mP s.2.2 p0 1) 1) (Int32.toNatClampNeg s.2.1)) 4) - (mI s.2.2 (mP s.2.2 p0 5) (Int32.toNatClampNeg s.2.1)))), .int s.2.1], [.int s.2.1, .ref (mP s.2.2 p0 5), .ref (mP s.2.2 (mP s.2.2 (mP s.2.2 p0 1) 1) (Int32.toNatClampNeg s.2.1))], s.2.2)) rfl ?_
    refine gIald (is := List.drop 71 mC122) h33 ?_
    replace hr := mBs hr
    refine gPut (is := List.drop 72 mC122) (μ' := mUI s.2.2 (mP s.2.2 (mP s.2.2 (mP s.2.2 p0 1) 1) (Int32.toNatClampNeg s.2.1)) 4 (mI s.2.2 (mP s.2.2 p0 5) (Int32.toNatClampNeg s.2.1))) h32 rfl ?_
    let μ34 : mM := mUI s.2.2 (mP s.2.2 (mP s.2.2 (mP s.2.2 p0 1) 1) (Int32.toNatClampNeg s.2.1)) 4 (mI s.2.2 (mP s.2.2 p0 5) (Int32.toNatClampNeg s.2.1))
    refine mGo.steps 2 (c' := (122, List.drop 45 mC122, [.ref p0, w1, .int (s.1 + ((mI s.2.2 (mP s.2.2 (mP s.2.2 (mP s.2.2 p0 1) 1) (Int32.toNatClampNeg s.2.1)) 4) - (mI s.2.2 (mP s.2.2 p0 5) (Int32.toNatClampNeg s.2.1)))), .int (s.2.1 + 1)], [], μ34)) rfl ?_
    obtain rfl := Option.some.inj hr
    exact hC w1 hw1
theorem t122L45l (p0 : Nat) {r : Option Value × mM} (n : Nat) (s : Int32 × Int32 × mM) (o : (Int32 × mM) ⊕ (Int32 × mM)) (hr : mLoop (s122L45 p0) n s = some o) (hC : Sum.elim (fun x : Int32 × mM => ∀ (w0 : Value) (hw0 : mNotL w0 = true) (w1 : Value) (hw1 : mNotL w1 = true) (w3 : Value) (hw3 : mNotL w3 = true), mGo mG (122, List.drop 74 mC122, [w0, w1, .int x.1, w3], [], x.2) r) (fun y : (Int32 × mM) => r = (some (.int y.1), y.2)) o) : ∀ (w1 : Value) (hw1 : mNotL w1 = true), mGo mG (122, List.drop 45 mC122, [.ref p0, w1, .int s.1, .int s.2.1], [], s.2.2) r :=
  mLoop_go (Hd := (fun s' : Int32 × Int32 × mM => ∀ (w1 : Value) (hw1 : mNotL w1 = true), mGo mG (122, List.drop 45 mC122, [.ref p0, w1, .int s'.1, .int s'.2.1], [], s'.2.2) r)) (fun s o hb hC => t122L45 p0 s o hb hC) n s o hr hC
def s122 (μ : mM) (a0 : Nat) (a1 : Int32) : Option (Int32 × mM) :=
  if (mS μ a0).1 = 8 then if (mS μ (mP μ a0 1)).1 = 1 then (s17 μ (mP μ a0 1) a1).bind fun q3 => if ¬ q3 = 0 then ((mLoop (s122L9 a0 a1) 1000 (0, μ)).bind fun o12 => Sum.elim (fun x13 => if (mS x13 a0).1 = 8 then if (mS x13 (mP x13 a0 1)).1 = 1 then if (mS x13 (mP x13 (mP x13 a0 1) 1)).1 = 20 + 6 ∧ mInb a1 (mS x13 (mP x13 (mP x13 a0 1) 1)).2 then if (mS x13 (mP x13 (mP x13 (mP x13 a0 1) 1) (Int32.toNatClampNeg a1))).1 = 6 then (some (mUI x13 (mP x13 (mP x13 (mP x13 a0 1) 1) (Int32.toNatClampNeg a1)) 0 0)).bind fun μ20 => if (mS μ20 (mP μ20 a0 1)).1 = 1 then (s34 μ20 (mP μ20 a0 1)).bind fun q22 => if (mS q22 a0).1 = 8 then if (mS q22 (mP q22 a0 1)).1 = 1 then if (mS q22 (mP q22 (mP q22 a0 1) 1)).1 = 20 + 6 ∧ mInb a1 (mS q22 (mP q22 (mP q22 a0 1) 1)).2 then if (mS q22 (mP q22 (mP q22 (mP q22 a0 1) 1) (Int32.toNatClampNeg a1))).1 = 6 then (some (mUI q22 (mP q22 (mP q22 (mP q22 a0 1) 1) (Int32.toNatClampNeg a1)) 0 1)).bind fun μ28 => (mLoop (s122L45 a0) 1000 (0, 0, μ28)).bind fun o36 => Sum.elim (fun x37 => some (x37.1, x37.2)) (fun y38 => some y38) o36 else none else none else none else none else none else none else none else none else none) (fun y14 => some y14) o12) else (some ((-1), μ)) else none else none
set_option maxRecDepth 20000 in
theorem t122 {μ : mM} {a0 : Nat} {a1 : Int32} {o : (Int32 × mM)} (hr : s122 μ a0 a1 = some o) : mEv mG 122 [.ref a0, .int a1] μ (some (.int o.1)) (o.2) := by
  obtain ⟨r, hC⟩ : ∃ r : Option Value × mM, r = (some (.int o.1), o.2) := ⟨_, rfl⟩
  show mGo mG (122, List.drop 0 mC122, [.ref a0, .int a1, .retAddr 0, .retAddr 0], [], μ) (some (.int o.1), o.2)
  rw [← hC]
  unfold s122 at hr
  refine mGo.steps 1 (c' := (122, List.drop 1 mC122, [.ref a0, .int a1, .retAddr 0, .retAddr 0], [.ref a0], μ)) rfl ?_
  obtain ⟨h1, hr⟩ := mIf hr
  refine gGet (is := List.drop 2 mC122) (v := .ref (mP μ a0 1)) h1 rfl ?_
  refine mGo.steps 1 (c' := (122, List.drop 3 mC122, [.ref a0, .int a1, .retAddr 0, .retAddr 0], [.int a1, .ref (mP μ a0 1)], μ)) rfl ?_
  obtain ⟨h2, hr⟩ := mIf hr
  obtain ⟨q3, h4, hr⟩ := mBi hr
  refine gCall (z := 17) (n := 1) (f := 0) (kind := 1) (a := (mP μ a0 1)) (As := [.int a1]) (y := 122) (is := List.drop 4 mC122) (L := [.ref a0, .int a1, .retAddr 0, .retAddr 0]) (rest := []) (μ := μ) rfl (by decide) (by decide) ⟨rfl, rfl⟩ rfl h2 (Nat.le_of_ble_eq_true rfl) (Nat.le_of_ble_eq_true rfl) (t17 h4) ?_
  rcases mIte hr with ⟨h40, hr⟩ | ⟨h40, hr⟩
  · refine gBrT (p := ¬ q3 = 0) (y := 122) (is := List.drop 5 mC122) (L := [.ref a0, .int a1, .retAddr 0, .retAddr 0]) (st := []) (μ := μ) (t := 13) rfl h40 ?_
    refine mGo.steps 2 (c' := (122, List.drop 9 mC122, [.ref a0, .int a1, .int 0, .retAddr 0], [], μ)) rfl ?_
    obtain ⟨o12, h15, hr⟩ := mBi hr
    refine t122L9l a0 a1 1000 (0, μ) o12 h15 ?_ (.retAddr 0) rfl
    cases o12 with
    | inl x13 =>
      show ∀ (w2 : Value) (hw2 : mNotL w2 = true) (w3 : Value) (hw3 : mNotL w3 = true), mGo mG (122, List.drop 24 mC122, [.ref a0, .int a1, w2, w3], [], x13) r
      intro w2 hw2 w3 hw3
      replace hr : (_) = some _ := hr
      refine mGo.steps 1 (c' := (122, List.drop 25 mC122, [.ref a0, .int a1, w2, w3], [.ref a0], x13)) rfl ?_
      obtain ⟨h16, hr⟩ := mIf hr
      refine gGet (is := List.drop 26 mC122) (v := .ref (mP x13 a0 1)) h16 rfl ?_
      obtain ⟨h17, hr⟩ := mIf hr
      refine gGet (is := List.drop 27 mC122) (v := .ref (mP x13 (mP x13 a0 1) 1)) h17 rfl ?_
      refine mGo.steps 1 (c' := (122, List.drop 28 mC122, [.ref a0, .int a1, w2, w3], [.int a1, .ref (mP x13 (mP x13 a0 1) 1)], x13)) rfl ?_
      obtain ⟨h18, hr⟩ := mIf hr
      refine gAald (is := List.drop 29 mC122) h18 ?_
      refine mGo.steps 1 (c' := (122, List.drop 30 mC122, [.ref a0, .int a1, w2, w3], [.int 0, .ref (mP x13 (mP x13 (mP x13 a0 1) 1) (Int32.toNatClampNeg a1))], x13)) rfl ?_
      obtain ⟨h19, hr⟩ := mIf hr
      replace hr := mBs hr
      refine gPut (is := List.drop 31 mC122) (μ' := mUI x13 (mP x13 (mP x13 (mP x13 a0 1) 1) (Int32.toNatClampNeg a1)) 0 0) h19 (gZ (by decide)) ?_
      let μ20 : mM := mUI x13 (mP x13 (mP x13 (mP x13 a0 1) 1) (Int32.toNatClampNeg a1)) 0 0
      refine mGo.steps 1 (c' := (122, List.drop 32 mC122, [.ref a0, .int a1, w2, w3], [.ref a0], μ20)) rfl ?_
      refine gGet (is := List.drop 33 mC122) (v := .ref (mP μ20 a0 1)) h16 rfl ?_
      obtain ⟨h21, hr⟩ := mIf hr
      obtain ⟨q22, h23, hr⟩ := mBi hr
      refine gCall (z := 34) (n := 0) (f := 0) (kind := 1) (a := (mP μ20 a0 1)) (As := []) (y := 122) (is := List.drop 34 mC122) (L := [.ref a0, .int a1, w2, w3]) (rest := []) (μ := μ20) rfl (by decide) (by decide) ⟨rfl, rfl⟩ rfl h21 (Nat.le_of_ble_eq_true rfl) (Nat.le_of_ble_eq_true rfl) (t34 h23) ?_
      refine mGo.steps 1 (c' := (122, List.drop 35 mC122, [.ref a0, .int a1, w2, w3], [.ref a0], q22)) rfl ?_
      obtain ⟨h24, hr⟩ := mIf hr
      refine gGet (is := List.drop 36 mC122) (v := .ref (mP q22 a0 1)) h24 rfl ?_
      obtain ⟨h25, hr⟩ := mIf hr
      refine gGet (is := List.drop 37 mC122) (v := .ref (mP q22 (mP q22 a0 1) 1)) h25 rfl ?_
      refine mGo.steps 1 (c' := (122, List.drop 38 mC122, [.ref a0, .int a1, w2, w3], [.int a1, .ref (mP q22 (mP q22 a0 1) 1)], q22)) rfl ?_
      obtain ⟨h26, hr⟩ := mIf hr
      refine gAald (is := List.drop 39 mC122) h26 ?_
      refine mGo.steps 1 (c' := (122, List.drop 40 mC122, [.ref a0, .int a1, w2, w3], [.int 1, .ref (mP q22 (mP q22 (mP q22 a0 1) 1) (Int32.toNatClampNeg a1))], q22)) rfl ?_
      obtain ⟨h27, hr⟩ := mIf hr
      replace hr := mBs hr
      refine gPut (is := List.drop 41 mC122) (μ' := mUI q22 (mP q22 (mP q22 (mP q22 a0 1) 1) (Int32.toNatClampNeg a1)) 0 1) h27 (gZ (by decide)) ?_
      let μ28 : mM := mUI q22 (mP q22 (mP q22 (mP q22 a0 1) 1) (Int32.toNatClampNeg a1)) 0 1
      refine mGo.steps 4 (c' := (122, List.drop 45 mC122, [.ref a0, .int a1, .int 0, .int 0], [], μ28)) rfl ?_
      obtain ⟨o36, h39, hr⟩ := mBi hr
      refine t122L45l a0 1000 (0, 0, μ28) o36 h39 ?_ (.int a1) rfl
      cases o36 with
      | inl x37 =>
        show ∀ (w0 : Value) (hw0 : mNotL w0 = true) (w1 : Value) (hw1 : mNotL w1 = true) (w3 : Value) (hw3 : mNotL w3 = true), mGo mG (122, List.drop 74 mC122, [w0, w1, .int x37.1, w3], [], x37.2) r
        intro w0 hw0 w1 hw1 w3 hw3
        replace hr : (_) = some _ := hr
        refine mGo.steps 1 (c' := (122, List.drop 75 mC122, [w0, w1, .int x37.1, w3], [.int x37.1], x37.2)) rfl ?_
        obtain rfl := Option.some.inj hr
        rw [show r = _ from hC]
        exact gIret rfl
      | inr y38 =>
        obtain rfl := Option.some.inj hr
        exact hC
    | inr y14 =>
      obtain rfl := Option.some.inj hr
      exact hC
  · refine gBrF (p := ¬ q3 = 0) (y := 122) (is := List.drop 5 mC122) (L := [.ref a0, .int a1, .retAddr 0, .retAddr 0]) (st := []) (μ := μ) (t := 13) rfl h40 ?_
    refine mGo.steps 1 (c' := (122, List.drop 6 mC122, [.ref a0, .int a1, .retAddr 0, .retAddr 0], [.int (-1)], μ)) rfl ?_
    obtain rfl := Option.some.inj hr
    rw [show r = _ from hC]
    exact gIret rfl

/-! 123: TunnelFabric.bottleneck(I)I -/
def s123_16 (μ : mM) (a0 : Nat) (a1 : Int32) (t0 : Int32) : Option Int32 :=
  some t0
set_option maxRecDepth 20000 in
theorem t123_16 (μ : mM) (a0 : Nat) (a1 : Int32) (t0 : Int32) (w0 : Value) (hw0 : mNotL w0 = true) (w1 : Value) (hw1 : mNotL w1 = true) {o : Int32} {r : Option Value × mM} (hr : s123_16 μ a0 a1 t0 = some o) (hC : r = (some (.int o), μ)) : mGo mG (123, List.drop 16 mC123, [w0, w1], [.int t0], μ) r := by
  unfold s123_16 at hr
  obtain rfl := Option.some.inj hr
  rw [show r = _ from hC]
  exact gIret rfl
def s123 (μ : mM) (a0 : Nat) (a1 : Int32) : Option Int32 :=
  if (mS μ a0).1 = 8 then if (mS μ (mP μ a0 1)).1 = 1 then (s17 μ (mP μ a0 1) a1).bind fun q3 => if q3 = 0 then (s123_16 μ a0 a1 (-1)) else (if (mS μ (mP μ (mP μ a0 1) 1)).1 = 20 + 6 ∧ mInb a1 (mS μ (mP μ (mP μ a0 1) 1)).2 then if (mS μ (mP μ (mP μ (mP μ a0 1) 1) (Int32.toNatClampNeg a1))).1 = 6 then (s33 μ (mP μ a0 1) (mP μ (mP μ (mP μ (mP μ a0 1) 1) (Int32.toNatClampNeg a1)) 6)).bind fun q7 => s123_16 μ a0 a1 q7 else none else none) else none else none
set_option maxRecDepth 20000 in
theorem t123 {μ : mM} {a0 : Nat} {a1 : Int32} {o : Int32} (hr : s123 μ a0 a1 = some o) : mEv mG 123 [.ref a0, .int a1] μ (some (.int o)) (μ) := by
  obtain ⟨r, hC⟩ : ∃ r : Option Value × mM, r = (some (.int o), μ) := ⟨_, rfl⟩
  show mGo mG (123, List.drop 0 mC123, [.ref a0, .int a1], [], μ) (some (.int o), μ)
  rw [← hC]
  unfold s123 at hr
  refine mGo.steps 1 (c' := (123, List.drop 1 mC123, [.ref a0, .int a1], [.ref a0], μ)) rfl ?_
  obtain ⟨h1, hr⟩ := mIf hr
  refine gGet (is := List.drop 2 mC123) (v := .ref (mP μ a0 1)) h1 rfl ?_
  refine mGo.steps 1 (c' := (123, List.drop 3 mC123, [.ref a0, .int a1], [.int a1, .ref (mP μ a0 1)], μ)) rfl ?_
  obtain ⟨h2, hr⟩ := mIf hr
  obtain ⟨q3, h4, hr⟩ := mBi hr
  refine gCall (z := 17) (n := 1) (f := 0) (kind := 1) (a := (mP μ a0 1)) (As := [.int a1]) (y := 123) (is := List.drop 4 mC123) (L := [.ref a0, .int a1]) (rest := []) (μ := μ) rfl (by decide) (by decide) ⟨rfl, rfl⟩ rfl h2 (Nat.le_of_ble_eq_true rfl) (Nat.le_of_ble_eq_true rfl) (t17 h4) ?_
  rcases mIte hr with ⟨h9, hr⟩ | ⟨h9, hr⟩
  · refine gBrT (p := q3 = 0) (y := 123) (is := List.drop 5 mC123) (L := [.ref a0, .int a1]) (st := []) (μ := μ) (t := 33) rfl h9 ?_
    refine mGo.steps 1 (c' := (123, List.drop 16 mC123, [.ref a0, .int a1], [.int (-1)], μ)) rfl ?_
    exact t123_16 μ a0 a1 (-1) (.ref a0) rfl (.int a1) rfl hr hC
  · refine gBrF (p := q3 = 0) (y := 123) (is := List.drop 5 mC123) (L := [.ref a0, .int a1]) (st := []) (μ := μ) (t := 33) rfl h9 ?_
    refine mGo.steps 1 (c' := (123, List.drop 6 mC123, [.ref a0, .int a1], [.ref a0], μ)) rfl ?_
    refine gGet (is := List.drop 7 mC123) (v := .ref (mP μ a0 1)) h1 rfl ?_
    refine mGo.steps 1 (c' := (123, List.drop 8 mC123, [.ref a0, .int a1], [.ref a0, .ref (mP μ a0 1)], μ)) rfl ?_
    refine gGet (is := List.drop 9 mC123) (v := .ref (mP μ a0 1)) h1 rfl ?_
    refine gGet (is := List.drop 10 mC123) (v := .ref (mP μ (mP μ a0 1) 1)) h2 rfl ?_
    refine mGo.steps 1 (c' := (123, List.drop 11 mC123, [.ref a0, .int a1], [.int a1, .ref (mP μ (mP μ a0 1) 1), .ref (mP μ a0 1)], μ)) rfl ?_
    obtain ⟨h5, hr⟩ := mIf hr
    refine gAald (is := List.drop 12 mC123) h5 ?_
    obtain ⟨h6, hr⟩ := mIf hr
    refine gGet (is := List.drop 13 mC123) (v := .ref (mP μ (mP μ (mP μ (mP μ a0 1) 1) (Int32.toNatClampNeg a1)) 6)) h6 rfl ?_
    obtain ⟨q7, h8, hr⟩ := mBi hr
    refine gCall (z := 33) (n := 1) (f := 0) (kind := 1) (a := (mP μ a0 1)) (As := [.ref (mP μ (mP μ (mP μ (mP μ a0 1) 1) (Int32.toNatClampNeg a1)) 6)]) (y := 123) (is := List.drop 14 mC123) (L := [.ref a0, .int a1]) (rest := []) (μ := μ) rfl (by decide) (by decide) ⟨rfl, rfl⟩ rfl h2 (Nat.le_of_ble_eq_true rfl) (Nat.le_of_ble_eq_true rfl) (t33 h8) ?_
    refine mGo.steps 1 (c' := (123, List.drop 16 mC123, [.ref a0, .int a1], [.int q7], μ)) rfl ?_
    exact t123_16 μ a0 a1 q7 (.ref a0) rfl (.int a1) rfl hr hC

/-! 124: TunnelFabric.count(I)I -/
def s124 (μ : mM) (a0 : Nat) (a1 : Int32) : Option Int32 :=
  if a1 = 0 then (if (mS μ a0).1 = 8 then if (mS μ (mP μ a0 1)).1 = 1 then (s19 μ (mP μ a0 1)).bind fun q3 => some q3 else none else none) else (if a1 = 1 then (if (mS μ a0).1 = 8 then if (mS μ (mP μ a0 1)).1 = 1 then (s20 μ (mP μ a0 1)).bind fun q8 => some q8 else none else none) else (if a1 = 2 then (if (mS μ a0).1 = 8 then if (mS μ (mP μ a0 1)).1 = 1 then some (mI μ (mP μ a0 1) 3) else none else none) else (if a1 = 3 then (if (mS μ a0).1 = 8 then if (mS μ (mP μ a0 1)).1 = 1 then some (mI μ (mP μ a0 1) 4) else none else none) else (if a1 = 4 then (if (mS μ a0).1 = 8 then if (mS μ (mP μ a0 1)).1 = 1 then some (mI μ (mP μ a0 1) 5) else none else none) else (if a1 = 5 then (if (mS μ a0).1 = 8 then if (mS μ (mP μ a0 1)).1 = 1 then (s21 μ (mP μ a0 1)).bind fun q22 => some q22 else none else none) else (if a1 = 6 then (if (mS μ a0).1 = 8 then if (mS μ (mP μ a0 1)).1 = 1 then some (mI μ (mP μ a0 1) 2) else none else none) else (if a1 = 7 then (if (mS μ a0).1 = 8 then if (mS μ (mP μ a0 0)).1 = 3 then some (mI μ (mP μ a0 0) 1) else none else none) else (if a1 = 8 then (if (mS μ a0).1 = 8 then if (mS μ (mP μ a0 1)).1 = 1 then some (mI μ (mP μ a0 1) 6) else none else none) else (some (-1))))))))))
set_option maxRecDepth 20000 in
theorem t124 {μ : mM} {a0 : Nat} {a1 : Int32} {o : Int32} (hr : s124 μ a0 a1 = some o) : mEv mG 124 [.ref a0, .int a1] μ (some (.int o)) (μ) := by
  obtain ⟨r, hC⟩ : ∃ r : Option Value × mM, r = (some (.int o), μ) := ⟨_, rfl⟩
  show mGo mG (124, List.drop 0 mC124, [.ref a0, .int a1], [], μ) (some (.int o), μ)
  rw [← hC]
  unfold s124 at hr
  refine mGo.steps 1 (c' := (124, List.drop 1 mC124, [.ref a0, .int a1], [.int a1], μ)) rfl ?_
  refine mGo.steps 1 (c' := (124, mSeek (mTs a1 0 [52, 60, 68, 76, 84, 92, 100, 108, 116] 124) (rC (mG 124)), [.ref a0, .int a1], [], μ)) rfl ?_
  rcases mIte hr with ⟨h5, hr⟩ | ⟨h5, hr⟩
  · refine gTs1 (w := 0) h5 rfl ?_
    refine mGo.steps 1 (c' := (124, List.drop 3 mC124, [.ref a0, .int a1], [.ref a0], μ)) rfl ?_
    obtain ⟨h1, hr⟩ := mIf hr
    refine gGet (is := List.drop 4 mC124) (v := .ref (mP μ a0 1)) h1 rfl ?_
    obtain ⟨h2, hr⟩ := mIf hr
    obtain ⟨q3, h4, hr⟩ := mBi hr
    refine gCall (z := 19) (n := 0) (f := 0) (kind := 1) (a := (mP μ a0 1)) (As := []) (y := 124) (is := List.drop 5 mC124) (L := [.ref a0, .int a1]) (rest := []) (μ := μ) rfl (by decide) (by decide) ⟨rfl, rfl⟩ rfl h2 (Nat.le_of_ble_eq_true rfl) (Nat.le_of_ble_eq_true rfl) (t19 h4) ?_
    obtain rfl := Option.some.inj hr
    rw [show r = _ from hC]
    exact gIret rfl
  · refine gTs0 (w := 0) h5 rfl ?_
    rcases mIte hr with ⟨h10, hr⟩ | ⟨h10, hr⟩
    · refine gTs1 (w := 1) h10 rfl ?_
      refine mGo.steps 1 (c' := (124, List.drop 7 mC124, [.ref a0, .int a1], [.ref a0], μ)) rfl ?_
      obtain ⟨h6, hr⟩ := mIf hr
      refine gGet (is := List.drop 8 mC124) (v := .ref (mP μ a0 1)) h6 rfl ?_
      obtain ⟨h7, hr⟩ := mIf hr
      obtain ⟨q8, h9, hr⟩ := mBi hr
      refine gCall (z := 20) (n := 0) (f := 0) (kind := 1) (a := (mP μ a0 1)) (As := []) (y := 124) (is := List.drop 9 mC124) (L := [.ref a0, .int a1]) (rest := []) (μ := μ) rfl (by decide) (by decide) ⟨rfl, rfl⟩ rfl h7 (Nat.le_of_ble_eq_true rfl) (Nat.le_of_ble_eq_true rfl) (t20 h9) ?_
      obtain rfl := Option.some.inj hr
      rw [show r = _ from hC]
      exact gIret rfl
    · refine gTs0 (w := 1) h10 rfl ?_
      rcases mIte hr with ⟨h13, hr⟩ | ⟨h13, hr⟩
      · refine gTs1 (w := 2) h13 rfl ?_
        refine mGo.steps 1 (c' := (124, List.drop 11 mC124, [.ref a0, .int a1], [.ref a0], μ)) rfl ?_
        obtain ⟨h11, hr⟩ := mIf hr
        refine gGet (is := List.drop 12 mC124) (v := .ref (mP μ a0 1)) h11 rfl ?_
        obtain ⟨h12, hr⟩ := mIf hr
        refine gGet (is := List.drop 13 mC124) (v := .int (mI μ (mP μ a0 1) 3)) h12 rfl ?_
        obtain rfl := Option.some.inj hr
        rw [show r = _ from hC]
        exact gIret rfl
      · refine gTs0 (w := 2) h13 rfl ?_
        rcases mIte hr with ⟨h16, hr⟩ | ⟨h16, hr⟩
        · refine gTs1 (w := 3) h16 rfl ?_
          refine mGo.steps 1 (c' := (124, List.drop 15 mC124, [.ref a0, .int a1], [.ref a0], μ)) rfl ?_
          obtain ⟨h14, hr⟩ := mIf hr
          refine gGet (is := List.drop 16 mC124) (v := .ref (mP μ a0 1)) h14 rfl ?_
          obtain ⟨h15, hr⟩ := mIf hr
          refine gGet (is := List.drop 17 mC124) (v := .int (mI μ (mP μ a0 1) 4)) h15 rfl ?_
          obtain rfl := Option.some.inj hr
          rw [show r = _ from hC]
          exact gIret rfl
        · refine gTs0 (w := 3) h16 rfl ?_
          rcases mIte hr with ⟨h19, hr⟩ | ⟨h19, hr⟩
          · refine gTs1 (w := 4) h19 rfl ?_
            refine mGo.steps 1 (c' := (124, List.drop 19 mC124, [.ref a0, .int a1], [.ref a0], μ)) rfl ?_
            obtain ⟨h17, hr⟩ := mIf hr
            refine gGet (is := List.drop 20 mC124) (v := .ref (mP μ a0 1)) h17 rfl ?_
            obtain ⟨h18, hr⟩ := mIf hr
            refine gGet (is := List.drop 21 mC124) (v := .int (mI μ (mP μ a0 1) 5)) h18 rfl ?_
            obtain rfl := Option.some.inj hr
            rw [show r = _ from hC]
            exact gIret rfl
          · refine gTs0 (w := 4) h19 rfl ?_
            rcases mIte hr with ⟨h24, hr⟩ | ⟨h24, hr⟩
            · refine gTs1 (w := 5) h24 rfl ?_
              refine mGo.steps 1 (c' := (124, List.drop 23 mC124, [.ref a0, .int a1], [.ref a0], μ)) rfl ?_
              obtain ⟨h20, hr⟩ := mIf hr
              refine gGet (is := List.drop 24 mC124) (v := .ref (mP μ a0 1)) h20 rfl ?_
              obtain ⟨h21, hr⟩ := mIf hr
              obtain ⟨q22, h23, hr⟩ := mBi hr
              refine gCall (z := 21) (n := 0) (f := 0) (kind := 1) (a := (mP μ a0 1)) (As := []) (y := 124) (is := List.drop 25 mC124) (L := [.ref a0, .int a1]) (rest := []) (μ := μ) rfl (by decide) (by decide) ⟨rfl, rfl⟩ rfl h21 (Nat.le_of_ble_eq_true rfl) (Nat.le_of_ble_eq_true rfl) (t21 h23) ?_
              obtain rfl := Option.some.inj hr
              rw [show r = _ from hC]
              exact gIret rfl
            · refine gTs0 (w := 5) h24 rfl ?_
              rcases mIte hr with ⟨h27, hr⟩ | ⟨h27, hr⟩
              · refine gTs1 (w := 6) h27 rfl ?_
                refine mGo.steps 1 (c' := (124, List.drop 27 mC124, [.ref a0, .int a1], [.ref a0], μ)) rfl ?_
                obtain ⟨h25, hr⟩ := mIf hr
                refine gGet (is := List.drop 28 mC124) (v := .ref (mP μ a0 1)) h25 rfl ?_
                obtain ⟨h26, hr⟩ := mIf hr
                refine gGet (is := List.drop 29 mC124) (v := .int (mI μ (mP μ a0 1) 2)) h26 rfl ?_
                obtain rfl := Option.some.inj hr
                rw [show r = _ from hC]
                exact gIret rfl
              · refine gTs0 (w := 6) h27 rfl ?_
                rcases mIte hr with ⟨h30, hr⟩ | ⟨h30, hr⟩
                · refine gTs1 (w := 7) h30 rfl ?_
                  refine mGo.steps 1 (c' := (124, List.drop 31 mC124, [.ref a0, .int a1], [.ref a0], μ)) rfl ?_
                  obtain ⟨h28, hr⟩ := mIf hr
                  refine gGet (is := List.drop 32 mC124) (v := .ref (mP μ a0 0)) h28 rfl ?_
                  obtain ⟨h29, hr⟩ := mIf hr
                  refine gGet (is := List.drop 33 mC124) (v := .int (mI μ (mP μ a0 0) 1)) h29 rfl ?_
                  obtain rfl := Option.some.inj hr
                  rw [show r = _ from hC]
                  exact gIret rfl
                · refine gTs0 (w := 7) h30 rfl ?_
                  rcases mIte hr with ⟨h33, hr⟩ | ⟨h33, hr⟩
                  · refine gTs1 (w := 8) h33 rfl ?_
                    refine mGo.steps 1 (c' := (124, List.drop 35 mC124, [.ref a0, .int a1], [.ref a0], μ)) rfl ?_
                    obtain ⟨h31, hr⟩ := mIf hr
                    refine gGet (is := List.drop 36 mC124) (v := .ref (mP μ a0 1)) h31 rfl ?_
                    obtain ⟨h32, hr⟩ := mIf hr
                    refine gGet (is := List.drop 37 mC124) (v := .int (mI μ (mP μ a0 1) 6)) h32 rfl ?_
                    obtain rfl := Option.some.inj hr
                    rw [show r = _ from hC]
                    exact gIret rfl
                  · refine gTs0 (w := 8) h33 rfl ?_
                    refine mGo.steps 1 (c' := (124, List.drop 39 mC124, [.ref a0, .int a1], [.int (-1)], μ)) rfl ?_
                    obtain rfl := Option.some.inj hr
                    rw [show r = _ from hC]
                    exact gIret rfl

/-! 125: TunnelFabric.save(I)I -/
def s125_23 (a0 : Nat) (a1 : Int32) (μ : mM) (v2 : Nat) : Option (Int32 × mM) :=
  if (mS μ a0).1 = 8 then if (mS μ v2).1 = 1 then (s13 μ v2 (mP μ a0 1)).bind fun q7 => if (mS q7 a0).1 = 8 then if (mS q7 (mP q7 a0 1)).1 = 1 then (s20 q7 (mP q7 a0 1)).bind fun q11 => some (q11, q7) else none else none else none else none
set_option maxRecDepth 20000 in
theorem t125_23 (a0 : Nat) (a1 : Int32) (μ : mM) (v2 : Nat) (w1 : Value) (hw1 : mNotL w1 = true) {o : (Int32 × mM)} {r : Option Value × mM} (hr : s125_23 a0 a1 μ v2 = some o) (hC : r = (some (.int o.1), o.2)) : mGo mG (125, List.drop 23 mC125, [.ref a0, w1, .ref v2], [], μ) r := by
  unfold s125_23 at hr
  refine mGo.steps 2 (c' := (125, List.drop 25 mC125, [.ref a0, w1, .ref v2], [.ref a0, .ref v2], μ)) rfl ?_
  obtain ⟨h5, hr⟩ := mIf hr
  refine gGet (is := List.drop 26 mC125) (v := .ref (mP μ a0 1)) h5 rfl ?_
  obtain ⟨h6, hr⟩ := mIf hr
  obtain ⟨q7, h8, hr⟩ := mBi hr
  refine gCall (z := 13) (n := 1) (f := 0) (kind := 1) (a := v2) (As := [.ref (mP μ a0 1)]) (y := 125) (is := List.drop 27 mC125) (L := [.ref a0, w1, .ref v2]) (rest := []) (μ := μ) rfl (by decide) (by decide) ⟨rfl, rfl⟩ rfl h6 (Nat.le_of_ble_eq_true rfl) (Nat.le_of_ble_eq_true rfl) (t13 h8) ?_
  refine mGo.steps 1 (c' := (125, List.drop 28 mC125, [.ref a0, w1, .ref v2], [.ref a0], q7)) rfl ?_
  obtain ⟨h9, hr⟩ := mIf hr
  refine gGet (is := List.drop 29 mC125) (v := .ref (mP q7 a0 1)) h9 rfl ?_
  obtain ⟨h10, hr⟩ := mIf hr
  obtain ⟨q11, h12, hr⟩ := mBi hr
  refine gCall (z := 20) (n := 0) (f := 0) (kind := 1) (a := (mP q7 a0 1)) (As := []) (y := 125) (is := List.drop 30 mC125) (L := [.ref a0, w1, .ref v2]) (rest := []) (μ := q7) rfl (by decide) (by decide) ⟨rfl, rfl⟩ rfl h10 (Nat.le_of_ble_eq_true rfl) (Nat.le_of_ble_eq_true rfl) (t20 h12) ?_
  obtain rfl := Option.some.inj hr
  rw [show r = _ from hC]
  exact gIret rfl
def s125 (μ : mM) (a0 : Nat) (a1 : Int32) : Option (Int32 × mM) :=
  (s131 μ a1 0 1).bind fun q1 => if ¬ q1 = 0 then (if (mS μ a0).1 = 8 then if (mS μ (mP μ a0 2)).1 = 20 + 1 ∧ mInb a1 (mS μ (mP μ a0 2)).2 then if ¬ (mP μ (mP μ a0 2) (Int32.toNatClampNeg a1)) = 0 then (s125_23 a0 a1 μ (mP μ (mP μ a0 2) (Int32.toNatClampNeg a1))) else ((some (mNew μ 1 (mN 1))).bind fun μ13 => if (mS μ13 (mNx μ)).1 = 1 then (s12 μ13 (mNx μ)).bind fun q15 => if (mS q15 a0).1 = 8 then if (mS q15 (mP q15 a0 2)).1 = 20 + 1 ∧ mInb a1 (mS q15 (mP q15 a0 2)).2 then if (mS q15 (mNx μ)).1 = 1 ∧ 1 < 10 then (some (mUP q15 (mP q15 a0 2) (Int32.toNatClampNeg a1) (mNx μ))).bind fun μ20 => s125_23 a0 a1 μ20 (mNx μ) else none else none else none else none) else none else none) else (some ((-1), μ))
set_option maxRecDepth 20000 in
theorem t125 {μ : mM} {a0 : Nat} {a1 : Int32} {o : (Int32 × mM)} (hr : s125 μ a0 a1 = some o) : mEv mG 125 [.ref a0, .int a1] μ (some (.int o.1)) (o.2) := by
  obtain ⟨r, hC⟩ : ∃ r : Option Value × mM, r = (some (.int o.1), o.2) := ⟨_, rfl⟩
  show mGo mG (125, List.drop 0 mC125, [.ref a0, .int a1, .retAddr 0], [], μ) (some (.int o.1), o.2)
  rw [← hC]
  unfold s125 at hr
  refine mGo.steps 3 (c' := (125, List.drop 3 mC125, [.ref a0, .int a1, .retAddr 0], [.int 1, .int 0, .int a1], μ)) rfl ?_
  obtain ⟨q1, h2, hr⟩ := mBi hr
  refine mGo.call (z := 131) (as := [.int a1, .int 0, .int 1]) (y := 125) (is := List.drop 4 mC125) (L := [.ref a0, .int a1, .retAddr 0]) (st := []) (μ := μ) rfl (t131 h2) ?_
  rcases mIte hr with ⟨h22, hr⟩ | ⟨h22, hr⟩
  · refine gBrT (p := ¬ q1 = 0) (y := 125) (is := List.drop 5 mC125) (L := [.ref a0, .int a1, .retAddr 0]) (st := []) (μ := μ) (t := 11) rfl h22 ?_
    refine mGo.steps 1 (c' := (125, List.drop 8 mC125, [.ref a0, .int a1, .retAddr 0], [.ref a0], μ)) rfl ?_
    obtain ⟨h3, hr⟩ := mIf hr
    refine gGet (is := List.drop 9 mC125) (v := .ref (mP μ a0 2)) h3 rfl ?_
    refine mGo.steps 1 (c' := (125, List.drop 10 mC125, [.ref a0, .int a1, .retAddr 0], [.int a1, .ref (mP μ a0 2)], μ)) rfl ?_
    obtain ⟨h4, hr⟩ := mIf hr
    refine gAald (is := List.drop 11 mC125) h4 ?_
    refine mGo.steps 2 (c' := (125, List.drop 13 mC125, [.ref a0, .int a1, .ref (mP μ (mP μ a0 2) (Int32.toNatClampNeg a1))], [.ref (mP μ (mP μ a0 2) (Int32.toNatClampNeg a1))], μ)) rfl ?_
    rcases mIte hr with ⟨h21, hr⟩ | ⟨h21, hr⟩
    · refine gBrT (p := ¬ (mP μ (mP μ a0 2) (Int32.toNatClampNeg a1)) = 0) (y := 125) (is := List.drop 14 mC125) (L := [.ref a0, .int a1, .ref (mP μ (mP μ a0 2) (Int32.toNatClampNeg a1))]) (st := []) (μ := μ) (t := 37) rfl h21 ?_
      exact t125_23 a0 a1 μ (mP μ (mP μ a0 2) (Int32.toNatClampNeg a1)) (.int a1) rfl hr hC
    · refine gBrF (p := ¬ (mP μ (mP μ a0 2) (Int32.toNatClampNeg a1)) = 0) (y := 125) (is := List.drop 14 mC125) (L := [.ref a0, .int a1, .ref (mP μ (mP μ a0 2) (Int32.toNatClampNeg a1))]) (st := []) (μ := μ) (t := 37) rfl h21 ?_
      replace hr := mBs hr
      refine mGo.steps 1 (c' := (125, List.drop 15 mC125, [.ref a0, .int a1, .ref (mP μ (mP μ a0 2) (Int32.toNatClampNeg a1))], [.ref (mNx μ)], (mNew μ 1 (mN 1)))) rfl ?_
      let μ13 : mM := mNew μ 1 (mN 1)
      refine mGo.steps 1 (c' := (125, List.drop 16 mC125, [.ref a0, .int a1, .ref (mP μ (mP μ a0 2) (Int32.toNatClampNeg a1))], [.ref (mNx μ), .ref (mNx μ)], μ13)) rfl ?_
      obtain ⟨h14, hr⟩ := mIf hr
      obtain ⟨q15, h16, hr⟩ := mBi hr
      refine gCall (z := 12) (n := 0) (f := 0) (kind := 2) (a := (mNx μ)) (As := []) (y := 125) (is := List.drop 17 mC125) (L := [.ref a0, .int a1, .ref (mP μ (mP μ a0 2) (Int32.toNatClampNeg a1))]) (rest := [.ref (mNx μ)]) (μ := μ13) rfl (by decide) (by decide) ⟨rfl, rfl⟩ rfl h14 (Nat.le_of_ble_eq_true rfl) (Nat.le_of_ble_eq_true rfl) (t12 h16) ?_
      refine mGo.steps 2 (c' := (125, List.drop 19 mC125, [.ref a0, .int a1, .ref (mNx μ)], [.ref a0], q15)) rfl ?_
      obtain ⟨h17, hr⟩ := mIf hr
      refine gGet (is := List.drop 20 mC125) (v := .ref (mP q15 a0 2)) h17 rfl ?_
      refine mGo.steps 2 (c' := (125, List.drop 22 mC125, [.ref a0, .int a1, .ref (mNx μ)], [.ref (mNx μ), .int a1, .ref (mP q15 a0 2)], q15)) rfl ?_
      obtain ⟨h18, hr⟩ := mIf hr
      obtain ⟨h19, hr⟩ := mIf hr
      replace hr := mBs hr
      refine gAast (is := List.drop 23 mC125) h18 h19 ?_
      let μ20 : mM := mUP q15 (mP q15 a0 2) (Int32.toNatClampNeg a1) (mNx μ)
      exact t125_23 a0 a1 μ20 (mNx μ) (.int a1) rfl hr hC
  · refine gBrF (p := ¬ q1 = 0) (y := 125) (is := List.drop 5 mC125) (L := [.ref a0, .int a1, .retAddr 0]) (st := []) (μ := μ) (t := 11) rfl h22 ?_
    refine mGo.steps 1 (c' := (125, List.drop 6 mC125, [.ref a0, .int a1, .retAddr 0], [.int (-1)], μ)) rfl ?_
    obtain rfl := Option.some.inj hr
    rw [show r = _ from hC]
    exact gIret rfl

/-! 126: TunnelFabric.restore(I)I -/
def s126 (μ : mM) (a0 : Nat) (a1 : Int32) : Option (Int32 × mM) :=
  (s131 μ a1 0 1).bind fun q1 => if ¬ q1 = 0 then (if (mS μ a0).1 = 8 then if (mS μ (mP μ a0 2)).1 = 20 + 1 ∧ mInb a1 (mS μ (mP μ a0 2)).2 then if ¬ (mP μ (mP μ a0 2) (Int32.toNatClampNeg a1)) = 0 then (if (mS μ (mP μ a0 1)).1 = 1 then (s13 μ (mP μ a0 1) (mP μ (mP μ a0 2) (Int32.toNatClampNeg a1))).bind fun q6 => if (mS q6 a0).1 = 8 then if (mS q6 (mP q6 a0 1)).1 = 1 then (s20 q6 (mP q6 a0 1)).bind fun q10 => some (q10, q6) else none else none else none) else (some ((-8), μ)) else none else none) else (some ((-1), μ))
set_option maxRecDepth 20000 in
theorem t126 {μ : mM} {a0 : Nat} {a1 : Int32} {o : (Int32 × mM)} (hr : s126 μ a0 a1 = some o) : mEv mG 126 [.ref a0, .int a1] μ (some (.int o.1)) (o.2) := by
  obtain ⟨r, hC⟩ : ∃ r : Option Value × mM, r = (some (.int o.1), o.2) := ⟨_, rfl⟩
  show mGo mG (126, List.drop 0 mC126, [.ref a0, .int a1, .retAddr 0], [], μ) (some (.int o.1), o.2)
  rw [← hC]
  unfold s126 at hr
  refine mGo.steps 3 (c' := (126, List.drop 3 mC126, [.ref a0, .int a1, .retAddr 0], [.int 1, .int 0, .int a1], μ)) rfl ?_
  obtain ⟨q1, h2, hr⟩ := mBi hr
  refine mGo.call (z := 131) (as := [.int a1, .int 0, .int 1]) (y := 126) (is := List.drop 4 mC126) (L := [.ref a0, .int a1, .retAddr 0]) (st := []) (μ := μ) rfl (t131 h2) ?_
  rcases mIte hr with ⟨h13, hr⟩ | ⟨h13, hr⟩
  · refine gBrT (p := ¬ q1 = 0) (y := 126) (is := List.drop 5 mC126) (L := [.ref a0, .int a1, .retAddr 0]) (st := []) (μ := μ) (t := 11) rfl h13 ?_
    refine mGo.steps 1 (c' := (126, List.drop 8 mC126, [.ref a0, .int a1, .retAddr 0], [.ref a0], μ)) rfl ?_
    obtain ⟨h3, hr⟩ := mIf hr
    refine gGet (is := List.drop 9 mC126) (v := .ref (mP μ a0 2)) h3 rfl ?_
    refine mGo.steps 1 (c' := (126, List.drop 10 mC126, [.ref a0, .int a1, .retAddr 0], [.int a1, .ref (mP μ a0 2)], μ)) rfl ?_
    obtain ⟨h4, hr⟩ := mIf hr
    refine gAald (is := List.drop 11 mC126) h4 ?_
    refine mGo.steps 2 (c' := (126, List.drop 13 mC126, [.ref a0, .int a1, .ref (mP μ (mP μ a0 2) (Int32.toNatClampNeg a1))], [.ref (mP μ (mP μ a0 2) (Int32.toNatClampNeg a1))], μ)) rfl ?_
    rcases mIte hr with ⟨h12, hr⟩ | ⟨h12, hr⟩
    · refine gBrT (p := ¬ (mP μ (mP μ a0 2) (Int32.toNatClampNeg a1)) = 0) (y := 126) (is := List.drop 14 mC126) (L := [.ref a0, .int a1, .ref (mP μ (mP μ a0 2) (Int32.toNatClampNeg a1))]) (st := []) (μ := μ) (t := 25) rfl h12 ?_
      refine mGo.steps 1 (c' := (126, List.drop 17 mC126, [.ref a0, .int a1, .ref (mP μ (mP μ a0 2) (Int32.toNatClampNeg a1))], [.ref a0], μ)) rfl ?_
      refine gGet (is := List.drop 18 mC126) (v := .ref (mP μ a0 1)) h3 rfl ?_
      refine mGo.steps 1 (c' := (126, List.drop 19 mC126, [.ref a0, .int a1, .ref (mP μ (mP μ a0 2) (Int32.toNatClampNeg a1))], [.ref (mP μ (mP μ a0 2) (Int32.toNatClampNeg a1)), .ref (mP μ a0 1)], μ)) rfl ?_
      obtain ⟨h5, hr⟩ := mIf hr
      obtain ⟨q6, h7, hr⟩ := mBi hr
      refine gCall (z := 13) (n := 1) (f := 0) (kind := 1) (a := (mP μ a0 1)) (As := [.ref (mP μ (mP μ a0 2) (Int32.toNatClampNeg a1))]) (y := 126) (is := List.drop 20 mC126) (L := [.ref a0, .int a1, .ref (mP μ (mP μ a0 2) (Int32.toNatClampNeg a1))]) (rest := []) (μ := μ) rfl (by decide) (by decide) ⟨rfl, rfl⟩ rfl h5 (Nat.le_of_ble_eq_true rfl) (Nat.le_of_ble_eq_true rfl) (t13 h7) ?_
      refine mGo.steps 1 (c' := (126, List.drop 21 mC126, [.ref a0, .int a1, .ref (mP μ (mP μ a0 2) (Int32.toNatClampNeg a1))], [.ref a0], q6)) rfl ?_
      obtain ⟨h8, hr⟩ := mIf hr
      refine gGet (is := List.drop 22 mC126) (v := .ref (mP q6 a0 1)) h8 rfl ?_
      obtain ⟨h9, hr⟩ := mIf hr
      obtain ⟨q10, h11, hr⟩ := mBi hr
      refine gCall (z := 20) (n := 0) (f := 0) (kind := 1) (a := (mP q6 a0 1)) (As := []) (y := 126) (is := List.drop 23 mC126) (L := [.ref a0, .int a1, .ref (mP μ (mP μ a0 2) (Int32.toNatClampNeg a1))]) (rest := []) (μ := q6) rfl (by decide) (by decide) ⟨rfl, rfl⟩ rfl h9 (Nat.le_of_ble_eq_true rfl) (Nat.le_of_ble_eq_true rfl) (t20 h11) ?_
      obtain rfl := Option.some.inj hr
      rw [show r = _ from hC]
      exact gIret rfl
    · refine gBrF (p := ¬ (mP μ (mP μ a0 2) (Int32.toNatClampNeg a1)) = 0) (y := 126) (is := List.drop 14 mC126) (L := [.ref a0, .int a1, .ref (mP μ (mP μ a0 2) (Int32.toNatClampNeg a1))]) (st := []) (μ := μ) (t := 25) rfl h12 ?_
      refine mGo.steps 1 (c' := (126, List.drop 15 mC126, [.ref a0, .int a1, .ref (mP μ (mP μ a0 2) (Int32.toNatClampNeg a1))], [.int (-8)], μ)) rfl ?_
      obtain rfl := Option.some.inj hr
      rw [show r = _ from hC]
      exact gIret rfl
  · refine gBrF (p := ¬ q1 = 0) (y := 126) (is := List.drop 5 mC126) (L := [.ref a0, .int a1, .retAddr 0]) (st := []) (μ := μ) (t := 11) rfl h13 ?_
    refine mGo.steps 1 (c' := (126, List.drop 6 mC126, [.ref a0, .int a1, .retAddr 0], [.int (-1)], μ)) rfl ?_
    obtain rfl := Option.some.inj hr
    rw [show r = _ from hC]
    exact gIret rfl

/-! 128: TunnelFabric.digestRouter(JI)J -/
def s128L4 (μ : mM) (p0 : Nat) (p3 : Int32) (s : Int64 × Int32) : Option ((Int64 × Int32) ⊕ ((Int64) ⊕ Int64)) :=
  if 5 < s.2 then (some (.inr (.inl s.1))) else (if (mS μ p0).1 = 8 then (s104 μ p0 p3 s.2).bind fun q2 => some (.inl (((Int64.ofNat 31) * s.1) + (Int32.toInt64 q2), s.2 + 1)) else none)
set_option maxRecDepth 20000 in
theorem t128L4 (μ : mM) (p0 : Nat) (p3 : Int32) {r : Option Value × mM} (s : Int64 × Int32) (o : ((Int64 × Int32) ⊕ ((Int64) ⊕ Int64))) (hr : s128L4 μ p0 p3 s = some o) (hC : Sum.elim (fun s' : Int64 × Int32 => ∀ (w1 : Int64), mGo mG (128, List.drop 4 mC128, [.ref p0, .long w1, .retAddr 0, .int p3, .long s'.1, .retAddr 0, .int s'.2], [], μ) r) (Sum.elim (fun x : Int64 => ∀ (w1 : Int64) (w6 : Value) (hw6 : mNotL w6 = true), mGo mG (128, List.drop 19 mC128, [.ref p0, .long w1, .retAddr 0, .int p3, .long x, .retAddr 0, w6], [], μ) r) (fun y : Int64 => r = (some (.long y), μ))) o) : ∀ (w1 : Int64), mGo mG (128, List.drop 4 mC128, [.ref p0, .long w1, .retAddr 0, .int p3, .long s.1, .retAddr 0, .int s.2], [], μ) r := by
  intro w1
  unfold s128L4 at hr
  refine mGo.steps 2 (c' := (128, List.drop 6 mC128, [.ref p0, .long w1, .retAddr 0, .int p3, .long s.1, .retAddr 0, .int s.2], [.int 5, .int s.2], μ)) rfl ?_
  rcases mIte hr with ⟨h4, hr⟩ | ⟨h4, hr⟩
  · refine gBrT (p := 5 < s.2) (y := 128) (is := List.drop 7 mC128) (L := [.ref p0, .long w1, .retAddr 0, .int p3, .long s.1, .retAddr 0, .int s.2]) (st := []) (μ := μ) (t := 35) rfl h4 ?_
    obtain rfl := Option.some.inj hr
    exact hC w1 (.int s.2) rfl
  · refine gBrF (p := 5 < s.2) (y := 128) (is := List.drop 7 mC128) (L := [.ref p0, .long w1, .retAddr 0, .int p3, .long s.1, .retAddr 0, .int s.2]) (st := []) (μ := μ) (t := 35) rfl h4 ?_
    refine mGo.steps 6 (c' := (128, List.drop 13 mC128, [.ref p0, .long w1, .retAddr 0, .int p3, .long s.1, .retAddr 0, .int s.2], [.int s.2, .int p3, .ref p0, .long ((Int64.ofNat 31) * s.1)], μ)) rfl ?_
    obtain ⟨h1, hr⟩ := mIf hr
    obtain ⟨q2, h3, hr⟩ := mBi hr
    refine gCall (z := 104) (n := 2) (f := 0) (kind := 1) (a := p0) (As := [.int p3, .int s.2]) (y := 128) (is := List.drop 14 mC128) (L := [.ref p0, .long w1, .retAddr 0, .int p3, .long s.1, .retAddr 0, .int s.2]) (rest := [.long ((Int64.ofNat 31) * s.1)]) (μ := μ) rfl (by decide) (by decide) ⟨rfl, rfl⟩ rfl h1 (Nat.le_of_ble_eq_true rfl) (Nat.le_of_ble_eq_true rfl) (t104 h3) ?_
    refine mGo.steps 5 (c' := (128, List.drop 4 mC128, [.ref p0, .long w1, .retAddr 0, .int p3, .long (((Int64.ofNat 31) * s.1) + (Int32.toInt64 q2)), .retAddr 0, .int (s.2 + 1)], [], μ)) rfl ?_
    obtain rfl := Option.some.inj hr
    exact hC w1
theorem t128L4l (μ : mM) (p0 : Nat) (p3 : Int32) {r : Option Value × mM} (n : Nat) (s : Int64 × Int32) (o : (Int64) ⊕ Int64) (hr : mLoop (s128L4 μ p0 p3) n s = some o) (hC : Sum.elim (fun x : Int64 => ∀ (w1 : Int64) (w6 : Value) (hw6 : mNotL w6 = true), mGo mG (128, List.drop 19 mC128, [.ref p0, .long w1, .retAddr 0, .int p3, .long x, .retAddr 0, w6], [], μ) r) (fun y : Int64 => r = (some (.long y), μ)) o) : ∀ (w1 : Int64), mGo mG (128, List.drop 4 mC128, [.ref p0, .long w1, .retAddr 0, .int p3, .long s.1, .retAddr 0, .int s.2], [], μ) r :=
  mLoop_go (Hd := (fun s' : Int64 × Int32 => ∀ (w1 : Int64), mGo mG (128, List.drop 4 mC128, [.ref p0, .long w1, .retAddr 0, .int p3, .long s'.1, .retAddr 0, .int s'.2], [], μ) r)) (fun s o hb hC => t128L4 μ p0 p3 s o hb hC) n s o hr hC
def s128L21 (μ : mM) (p0 : Nat) (p3 : Int32) (s : Int64 × Int32) : Option ((Int64 × Int32) ⊕ ((Int64) ⊕ Int64)) :=
  if 6 < s.2 then (some (.inr (.inl s.1))) else (if (mS μ p0).1 = 8 then (s106 μ p0 p3 s.2).bind fun q10 => some (.inl (((Int64.ofNat 31) * s.1) + (Int32.toInt64 q10), s.2 + 1)) else none)
set_option maxRecDepth 20000 in
theorem t128L21 (μ : mM) (p0 : Nat) (p3 : Int32) {r : Option Value × mM} (s : Int64 × Int32) (o : ((Int64 × Int32) ⊕ ((Int64) ⊕ Int64))) (hr : s128L21 μ p0 p3 s = some o) (hC : Sum.elim (fun s' : Int64 × Int32 => ∀ (w1 : Int64), mGo mG (128, List.drop 21 mC128, [.ref p0, .long w1, .retAddr 0, .int p3, .long s'.1, .retAddr 0, .int s'.2], [], μ) r) (Sum.elim (fun x : Int64 => ∀ (w1 : Int64) (w6 : Value) (hw6 : mNotL w6 = true), mGo mG (128, List.drop 36 mC128, [.ref p0, .long w1, .retAddr 0, .int p3, .long x, .retAddr 0, w6], [], μ) r) (fun y : Int64 => r = (some (.long y), μ))) o) : ∀ (w1 : Int64), mGo mG (128, List.drop 21 mC128, [.ref p0, .long w1, .retAddr 0, .int p3, .long s.1, .retAddr 0, .int s.2], [], μ) r := by
  intro w1
  unfold s128L21 at hr
  refine mGo.steps 2 (c' := (128, List.drop 23 mC128, [.ref p0, .long w1, .retAddr 0, .int p3, .long s.1, .retAddr 0, .int s.2], [.int 6, .int s.2], μ)) rfl ?_
  rcases mIte hr with ⟨h12, hr⟩ | ⟨h12, hr⟩
  · refine gBrT (p := 6 < s.2) (y := 128) (is := List.drop 24 mC128) (L := [.ref p0, .long w1, .retAddr 0, .int p3, .long s.1, .retAddr 0, .int s.2]) (st := []) (μ := μ) (t := 68) rfl h12 ?_
    obtain rfl := Option.some.inj hr
    exact hC w1 (.int s.2) rfl
  · refine gBrF (p := 6 < s.2) (y := 128) (is := List.drop 24 mC128) (L := [.ref p0, .long w1, .retAddr 0, .int p3, .long s.1, .retAddr 0, .int s.2]) (st := []) (μ := μ) (t := 68) rfl h12 ?_
    refine mGo.steps 6 (c' := (128, List.drop 30 mC128, [.ref p0, .long w1, .retAddr 0, .int p3, .long s.1, .retAddr 0, .int s.2], [.int s.2, .int p3, .ref p0, .long ((Int64.ofNat 31) * s.1)], μ)) rfl ?_
    obtain ⟨h9, hr⟩ := mIf hr
    obtain ⟨q10, h11, hr⟩ := mBi hr
    refine gCall (z := 106) (n := 2) (f := 0) (kind := 1) (a := p0) (As := [.int p3, .int s.2]) (y := 128) (is := List.drop 31 mC128) (L := [.ref p0, .long w1, .retAddr 0, .int p3, .long s.1, .retAddr 0, .int s.2]) (rest := [.long ((Int64.ofNat 31) * s.1)]) (μ := μ) rfl (by decide) (by decide) ⟨rfl, rfl⟩ rfl h9 (Nat.le_of_ble_eq_true rfl) (Nat.le_of_ble_eq_true rfl) (t106 h11) ?_
    refine mGo.steps 5 (c' := (128, List.drop 21 mC128, [.ref p0, .long w1, .retAddr 0, .int p3, .long (((Int64.ofNat 31) * s.1) + (Int32.toInt64 q10)), .retAddr 0, .int (s.2 + 1)], [], μ)) rfl ?_
    obtain rfl := Option.some.inj hr
    exact hC w1
theorem t128L21l (μ : mM) (p0 : Nat) (p3 : Int32) {r : Option Value × mM} (n : Nat) (s : Int64 × Int32) (o : (Int64) ⊕ Int64) (hr : mLoop (s128L21 μ p0 p3) n s = some o) (hC : Sum.elim (fun x : Int64 => ∀ (w1 : Int64) (w6 : Value) (hw6 : mNotL w6 = true), mGo mG (128, List.drop 36 mC128, [.ref p0, .long w1, .retAddr 0, .int p3, .long x, .retAddr 0, w6], [], μ) r) (fun y : Int64 => r = (some (.long y), μ)) o) : ∀ (w1 : Int64), mGo mG (128, List.drop 21 mC128, [.ref p0, .long w1, .retAddr 0, .int p3, .long s.1, .retAddr 0, .int s.2], [], μ) r :=
  mLoop_go (Hd := (fun s' : Int64 × Int32 => ∀ (w1 : Int64), mGo mG (128, List.drop 21 mC128, [.ref p0, .long w1, .retAddr 0, .int p3, .long s'.1, .retAddr 0, .int s'.2], [], μ) r)) (fun s o hb hC => t128L21 μ p0 p3 s o hb hC) n s o hr hC
def s128L38 (μ : mM) (p0 : Nat) (p3 : Int32) (s : Int64 × Int32) : Option ((Int64 × Int32) ⊕ ((Int64) ⊕ Int64)) :=
  if 2 ≤ s.2 then (some (.inr (.inl s.1))) else (if (mS μ p0).1 = 8 then (s107 μ p0 p3 s.2).bind fun q18 => (s108 μ p0 p3 s.2).bind fun q20 => (s109 μ p0 p3 s.2).bind fun q22 => some (.inl (((Int64.ofNat 31) * (((Int64.ofNat 31) * (((Int64.ofNat 31) * s.1) + (Int32.toInt64 q18))) + (Int32.toInt64 q20))) + (Int32.toInt64 q22), s.2 + 1)) else none)
set_option maxRecDepth 20000 in
theorem t128L38 (μ : mM) (p0 : Nat) (p3 : Int32) {r : Option Value × mM} (s : Int64 × Int32) (o : ((Int64 × Int32) ⊕ ((Int64) ⊕ Int64))) (hr : s128L38 μ p0 p3 s = some o) (hC : Sum.elim (fun s' : Int64 × Int32 => ∀ (w1 : Int64), mGo mG (128, List.drop 38 mC128, [.ref p0, .long w1, .retAddr 0, .int p3, .long s'.1, .retAddr 0, .int s'.2], [], μ) r) (Sum.elim (fun x : Int64 => ∀ (w0 : Value) (hw0 : mNotL w0 = true) (w1 : Int64) (w3 : Value) (hw3 : mNotL w3 = true) (w6 : Value) (hw6 : mNotL w6 = true), mGo mG (128, List.drop 73 mC128, [w0, .long w1, .retAddr 0, w3, .long x, .retAddr 0, w6], [], μ) r) (fun y : Int64 => r = (some (.long y), μ))) o) : ∀ (w1 : Int64), mGo mG (128, List.drop 38 mC128, [.ref p0, .long w1, .retAddr 0, .int p3, .long s.1, .retAddr 0, .int s.2], [], μ) r := by
  intro w1
  unfold s128L38 at hr
  refine mGo.steps 2 (c' := (128, List.drop 40 mC128, [.ref p0, .long w1, .retAddr 0, .int p3, .long s.1, .retAddr 0, .int s.2], [.int 2, .int s.2], μ)) rfl ?_
  rcases mIte hr with ⟨h24, hr⟩ | ⟨h24, hr⟩
  · refine gBrT (p := 2 ≤ s.2) (y := 128) (is := List.drop 41 mC128) (L := [.ref p0, .long w1, .retAddr 0, .int p3, .long s.1, .retAddr 0, .int s.2]) (st := []) (μ := μ) (t := 134) rfl h24 ?_
    obtain rfl := Option.some.inj hr
    exact hC (.ref p0) rfl w1 (.int p3) rfl (.int s.2) rfl
  · refine gBrF (p := 2 ≤ s.2) (y := 128) (is := List.drop 41 mC128) (L := [.ref p0, .long w1, .retAddr 0, .int p3, .long s.1, .retAddr 0, .int s.2]) (st := []) (μ := μ) (t := 134) rfl h24 ?_
    refine mGo.steps 6 (c' := (128, List.drop 47 mC128, [.ref p0, .long w1, .retAddr 0, .int p3, .long s.1, .retAddr 0, .int s.2], [.int s.2, .int p3, .ref p0, .long ((Int64.ofNat 31) * s.1)], μ)) rfl ?_
    obtain ⟨h17, hr⟩ := mIf hr
    obtain ⟨q18, h19, hr⟩ := mBi hr
    refine gCall (z := 107) (n := 2) (f := 0) (kind := 1) (a := p0) (As := [.int p3, .int s.2]) (y := 128) (is := List.drop 48 mC128) (L := [.ref p0, .long w1, .retAddr 0, .int p3, .long s.1, .retAddr 0, .int s.2]) (rest := [.long ((Int64.ofNat 31) * s.1)]) (μ := μ) rfl (by decide) (by decide) ⟨rfl, rfl⟩ rfl h17 (Nat.le_of_ble_eq_true rfl) (Nat.le_of_ble_eq_true rfl) (t107 h19) ?_
    refine mGo.steps 9 (c' := (128, List.drop 57 mC128, [.ref p0, .long w1, .retAddr 0, .int p3, .long (((Int64.ofNat 31) * s.1) + (Int32.toInt64 q18)), .retAddr 0, .int s.2], [.int s.2, .int p3, .ref p0, .long ((Int64.ofNat 31) * (((Int64.ofNat 31) * s.1) + (Int32.toInt64 q18)))], μ)) rfl ?_
    obtain ⟨q20, h21, hr⟩ := mBi hr
    refine gCall (z := 108) (n := 2) (f := 0) (kind := 1) (a := p0) (As := [.int p3, .int s.2]) (y := 128) (is := List.drop 58 mC128) (L := [.ref p0, .long w1, .retAddr 0, .int p3, .long (((Int64.ofNat 31) * s.1) + (Int32.toInt64 q18)), .retAddr 0, .int s.2]) (rest := [.long ((Int64.ofNat 31) * (((Int64.ofNat 31) * s.1) + (Int32.toInt64 q18)))]) (μ := μ) rfl (by decide) (by decide) ⟨rfl, rfl⟩ rfl h17 (Nat.le_of_ble_eq_true rfl) (Nat.le_of_ble_eq_true rfl) (t108 h21) ?_
    refine mGo.steps 9 (c' := (128, List.drop 67 mC128, [.ref p0, .long w1, .retAddr 0, .int p3, .long (((Int64.ofNat 31) * (((Int64.ofNat 31) * s.1) + (Int32.toInt64 q18))) + (Int32.toInt64 q20)), .retAddr 0, .int s.2], [.int s.2, .int p3, .ref p0, .long ((Int64.ofNat 31) * (((Int64.ofNat 31) * (((Int64.ofNat 31) * s.1) + (Int32.toInt64 q18))) + (Int32.toInt64 q20)))], μ)) rfl ?_
    obtain ⟨q22, h23, hr⟩ := mBi hr
    refine gCall (z := 109) (n := 2) (f := 0) (kind := 1) (a := p0) (As := [.int p3, .int s.2]) (y := 128) (is := List.drop 68 mC128) (L := [.ref p0, .long w1, .retAddr 0, .int p3, .long (((Int64.ofNat 31) * (((Int64.ofNat 31) * s.1) + (Int32.toInt64 q18))) + (Int32.toInt64 q20)), .retAddr 0, .int s.2]) (rest := [.long ((Int64.ofNat 31) * (((Int64.ofNat 31) * (((Int64.ofNat 31) * s.1) + (Int32.toInt64 q18))) + (Int32.toInt64 q20)))]) (μ := μ) rfl (by decide) (by decide) ⟨rfl, rfl⟩ rfl h17 (Nat.le_of_ble_eq_true rfl) (Nat.le_of_ble_eq_true rfl) (t109 h23) ?_
    refine mGo.steps 5 (c' := (128, List.drop 38 mC128, [.ref p0, .long w1, .retAddr 0, .int p3, .long (((Int64.ofNat 31) * (((Int64.ofNat 31) * (((Int64.ofNat 31) * s.1) + (Int32.toInt64 q18))) + (Int32.toInt64 q20))) + (Int32.toInt64 q22)), .retAddr 0, .int (s.2 + 1)], [], μ)) rfl ?_
    obtain rfl := Option.some.inj hr
    exact hC w1
theorem t128L38l (μ : mM) (p0 : Nat) (p3 : Int32) {r : Option Value × mM} (n : Nat) (s : Int64 × Int32) (o : (Int64) ⊕ Int64) (hr : mLoop (s128L38 μ p0 p3) n s = some o) (hC : Sum.elim (fun x : Int64 => ∀ (w0 : Value) (hw0 : mNotL w0 = true) (w1 : Int64) (w3 : Value) (hw3 : mNotL w3 = true) (w6 : Value) (hw6 : mNotL w6 = true), mGo mG (128, List.drop 73 mC128, [w0, .long w1, .retAddr 0, w3, .long x, .retAddr 0, w6], [], μ) r) (fun y : Int64 => r = (some (.long y), μ)) o) : ∀ (w1 : Int64), mGo mG (128, List.drop 38 mC128, [.ref p0, .long w1, .retAddr 0, .int p3, .long s.1, .retAddr 0, .int s.2], [], μ) r :=
  mLoop_go (Hd := (fun s' : Int64 × Int32 => ∀ (w1 : Int64), mGo mG (128, List.drop 38 mC128, [.ref p0, .long w1, .retAddr 0, .int p3, .long s'.1, .retAddr 0, .int s'.2], [], μ) r)) (fun s o hb hC => t128L38 μ p0 p3 s o hb hC) n s o hr hC
def s128 (μ : mM) (a0 : Nat) (a1 : Int64) (a2 : Int32) : Option Int64 :=
  (mLoop (s128L4 μ a0 a2) 1000 (a1, 0)).bind fun o5 => Sum.elim (fun x6 => (mLoop (s128L21 μ a0 a2) 1000 (x6, 0)).bind fun o13 => Sum.elim (fun x14 => (mLoop (s128L38 μ a0 a2) 1000 (x14, 0)).bind fun o25 => Sum.elim (fun x26 => some x26) (fun y27 => some y27) o25) (fun y15 => some y15) o13) (fun y7 => some y7) o5
set_option maxRecDepth 20000 in
theorem t128 {μ : mM} {a0 : Nat} {a1 : Int64} {a2 : Int32} {o : Int64} (hr : s128 μ a0 a1 a2 = some o) : mEv mG 128 [.ref a0, .long a1, .int a2] μ (some (.long o)) (μ) := by
  obtain ⟨r, hC⟩ : ∃ r : Option Value × mM, r = (some (.long o), μ) := ⟨_, rfl⟩
  show mGo mG (128, List.drop 0 mC128, [.ref a0, .long a1, .retAddr 0, .int a2, .retAddr 0, .retAddr 0, .retAddr 0], [], μ) (some (.long o), μ)
  rw [← hC]
  unfold s128 at hr
  refine mGo.steps 4 (c' := (128, List.drop 4 mC128, [.ref a0, .long a1, .retAddr 0, .int a2, .long a1, .retAddr 0, .int 0], [], μ)) rfl ?_
  obtain ⟨o5, h8, hr⟩ := mBi hr
  refine t128L4l μ a0 a2 1000 (a1, 0) o5 h8 ?_ a1
  cases o5 with
  | inl x6 =>
    show ∀ (w1 : Int64) (w6 : Value) (hw6 : mNotL w6 = true), mGo mG (128, List.drop 19 mC128, [.ref a0, .long w1, .retAddr 0, .int a2, .long x6, .retAddr 0, w6], [], μ) r
    intro w1 w6 hw6
    replace hr : (_) = some _ := hr
    refine mGo.steps 2 (c' := (128, List.drop 21 mC128, [.ref a0, .long w1, .retAddr 0, .int a2, .long x6, .retAddr 0, .int 0], [], μ)) rfl ?_
    obtain ⟨o13, h16, hr⟩ := mBi hr
    refine t128L21l μ a0 a2 1000 (x6, 0) o13 h16 ?_ w1
    cases o13 with
    | inl x14 =>
      show ∀ (w1 : Int64) (w6 : Value) (hw6 : mNotL w6 = true), mGo mG (128, List.drop 36 mC128, [.ref a0, .long w1, .retAddr 0, .int a2, .long x14, .retAddr 0, w6], [], μ) r
      intro w1 w6 hw6
      replace hr : (_) = some _ := hr
      refine mGo.steps 2 (c' := (128, List.drop 38 mC128, [.ref a0, .long w1, .retAddr 0, .int a2, .long x14, .retAddr 0, .int 0], [], μ)) rfl ?_
      obtain ⟨o25, h28, hr⟩ := mBi hr
      refine t128L38l μ a0 a2 1000 (x14, 0) o25 h28 ?_ w1
      cases o25 with
      | inl x26 =>
        show ∀ (w0 : Value) (hw0 : mNotL w0 = true) (w1 : Int64) (w3 : Value) (hw3 : mNotL w3 = true) (w6 : Value) (hw6 : mNotL w6 = true), mGo mG (128, List.drop 73 mC128, [w0, .long w1, .retAddr 0, w3, .long x26, .retAddr 0, w6], [], μ) r
        intro w0 hw0 w1 w3 hw3 w6 hw6
        replace hr : (_) = some _ := hr
        refine mGo.steps 1 (c' := (128, List.drop 74 mC128, [w0, .long w1, .retAddr 0, w3, .long x26, .retAddr 0, w6], [.long x26], μ)) rfl ?_
        obtain rfl := Option.some.inj hr
        rw [show r = _ from hC]
        exact gLret rfl
      | inr y27 =>
        obtain rfl := Option.some.inj hr
        exact hC
    | inr y15 =>
      obtain rfl := Option.some.inj hr
      exact hC
  | inr y7 =>
    obtain rfl := Option.some.inj hr
    exact hC

/-! 130: TunnelFabric.digestWay(JII)J -/
def s130L4 (μ : mM) (p0 : Nat) (p3 : Int32) (p4 : Int32) (s : Int64 × Int32) : Option ((Int64 × Int32) ⊕ ((Int64) ⊕ Int64)) :=
  if 2 < s.2 then (some (.inr (.inl s.1))) else (if (mS μ p0).1 = 8 then (s116 μ p0 p3 p4 s.2).bind fun q2 => some (.inl (((Int64.ofNat 31) * s.1) + (Int32.toInt64 q2), s.2 + 1)) else none)
set_option maxRecDepth 20000 in
theorem t130L4 (μ : mM) (p0 : Nat) (p3 : Int32) (p4 : Int32) {r : Option Value × mM} (s : Int64 × Int32) (o : ((Int64 × Int32) ⊕ ((Int64) ⊕ Int64))) (hr : s130L4 μ p0 p3 p4 s = some o) (hC : Sum.elim (fun s' : Int64 × Int32 => ∀ (w1 : Int64) (w8 : Value) (hw8 : mNotL w8 = true) (w9 : Value) (hw9 : mNotL w9 = true), mGo mG (130, List.drop 4 mC130, [.ref p0, .long w1, .retAddr 0, .int p3, .int p4, .long s'.1, .retAddr 0, .int s'.2, w8, w9], [], μ) r) (Sum.elim (fun x : Int64 => ∀ (w1 : Int64) (w7 : Value) (hw7 : mNotL w7 = true) (w8 : Value) (hw8 : mNotL w8 = true) (w9 : Value) (hw9 : mNotL w9 = true), mGo mG (130, List.drop 20 mC130, [.ref p0, .long w1, .retAddr 0, .int p3, .int p4, .long x, .retAddr 0, w7, w8, w9], [], μ) r) (fun y : Int64 => r = (some (.long y), μ))) o) : ∀ (w1 : Int64) (w8 : Value) (hw8 : mNotL w8 = true) (w9 : Value) (hw9 : mNotL w9 = true), mGo mG (130, List.drop 4 mC130, [.ref p0, .long w1, .retAddr 0, .int p3, .int p4, .long s.1, .retAddr 0, .int s.2, w8, w9], [], μ) r := by
  intro w1 w8 hw8 w9 hw9
  unfold s130L4 at hr
  refine mGo.steps 2 (c' := (130, List.drop 6 mC130, [.ref p0, .long w1, .retAddr 0, .int p3, .int p4, .long s.1, .retAddr 0, .int s.2, w8, w9], [.int 2, .int s.2], μ)) rfl ?_
  rcases mIte hr with ⟨h4, hr⟩ | ⟨h4, hr⟩
  · refine gBrT (p := 2 < s.2) (y := 130) (is := List.drop 7 mC130) (L := [.ref p0, .long w1, .retAddr 0, .int p3, .int p4, .long s.1, .retAddr 0, .int s.2, w8, w9]) (st := []) (μ := μ) (t := 37) rfl h4 ?_
    obtain rfl := Option.some.inj hr
    exact hC w1 (.int s.2) rfl w8 hw8 w9 hw9
  · refine gBrF (p := 2 < s.2) (y := 130) (is := List.drop 7 mC130) (L := [.ref p0, .long w1, .retAddr 0, .int p3, .int p4, .long s.1, .retAddr 0, .int s.2, w8, w9]) (st := []) (μ := μ) (t := 37) rfl h4 ?_
    refine mGo.steps 7 (c' := (130, List.drop 14 mC130, [.ref p0, .long w1, .retAddr 0, .int p3, .int p4, .long s.1, .retAddr 0, .int s.2, w8, w9], [.int s.2, .int p4, .int p3, .ref p0, .long ((Int64.ofNat 31) * s.1)], μ)) rfl ?_
    obtain ⟨h1, hr⟩ := mIf hr
    obtain ⟨q2, h3, hr⟩ := mBi hr
    refine gCall (z := 116) (n := 3) (f := 0) (kind := 1) (a := p0) (As := [.int p3, .int p4, .int s.2]) (y := 130) (is := List.drop 15 mC130) (L := [.ref p0, .long w1, .retAddr 0, .int p3, .int p4, .long s.1, .retAddr 0, .int s.2, w8, w9]) (rest := [.long ((Int64.ofNat 31) * s.1)]) (μ := μ) rfl (by decide) (by decide) ⟨rfl, rfl⟩ rfl h1 (Nat.le_of_ble_eq_true rfl) (Nat.le_of_ble_eq_true rfl) (t116 h3) ?_
    refine mGo.steps 5 (c' := (130, List.drop 4 mC130, [.ref p0, .long w1, .retAddr 0, .int p3, .int p4, .long (((Int64.ofNat 31) * s.1) + (Int32.toInt64 q2)), .retAddr 0, .int (s.2 + 1), w8, w9], [], μ)) rfl ?_
    obtain rfl := Option.some.inj hr
    exact hC w1 w8 hw8 w9 hw9
theorem t130L4l (μ : mM) (p0 : Nat) (p3 : Int32) (p4 : Int32) {r : Option Value × mM} (n : Nat) (s : Int64 × Int32) (o : (Int64) ⊕ Int64) (hr : mLoop (s130L4 μ p0 p3 p4) n s = some o) (hC : Sum.elim (fun x : Int64 => ∀ (w1 : Int64) (w7 : Value) (hw7 : mNotL w7 = true) (w8 : Value) (hw8 : mNotL w8 = true) (w9 : Value) (hw9 : mNotL w9 = true), mGo mG (130, List.drop 20 mC130, [.ref p0, .long w1, .retAddr 0, .int p3, .int p4, .long x, .retAddr 0, w7, w8, w9], [], μ) r) (fun y : Int64 => r = (some (.long y), μ)) o) : ∀ (w1 : Int64) (w8 : Value) (hw8 : mNotL w8 = true) (w9 : Value) (hw9 : mNotL w9 = true), mGo mG (130, List.drop 4 mC130, [.ref p0, .long w1, .retAddr 0, .int p3, .int p4, .long s.1, .retAddr 0, .int s.2, w8, w9], [], μ) r :=
  mLoop_go (Hd := (fun s' : Int64 × Int32 => ∀ (w1 : Int64) (w8 : Value) (hw8 : mNotL w8 = true) (w9 : Value) (hw9 : mNotL w9 = true), mGo mG (130, List.drop 4 mC130, [.ref p0, .long w1, .retAddr 0, .int p3, .int p4, .long s'.1, .retAddr 0, .int s'.2, w8, w9], [], μ) r)) (fun s o hb hC => t130L4 μ p0 p3 p4 s o hb hC) n s o hr hC
def s130L31L36 (μ : mM) (p0 : Nat) (p3 : Int32) (p4 : Int32) (p7 : Int32) (p8 : Int32) (s : Int64 × Int32) : Option ((Int64 × Int32) ⊕ ((Int64) ⊕ Int64)) :=
  if 3 < s.2 then (some (.inr (.inl s.1))) else (if (mS μ p0).1 = 8 then (s115 μ p0 p3 p4 p8 s.2).bind fun q17 => some (.inl (((Int64.ofNat 31) * s.1) + (Int32.toInt64 q17), s.2 + 1)) else none)
set_option maxRecDepth 20000 in
theorem t130L31L36 (μ : mM) (p0 : Nat) (p3 : Int32) (p4 : Int32) (p7 : Int32) (p8 : Int32) {r : Option Value × mM} (s : Int64 × Int32) (o : ((Int64 × Int32) ⊕ ((Int64) ⊕ Int64))) (hr : s130L31L36 μ p0 p3 p4 p7 p8 s = some o) (hC : Sum.elim (fun s' : Int64 × Int32 => ∀ (w1 : Int64), mGo mG (130, List.drop 36 mC130, [.ref p0, .long w1, .retAddr 0, .int p3, .int p4, .long s'.1, .retAddr 0, .int p7, .int p8, .int s'.2], [], μ) r) (Sum.elim (fun x : Int64 => ∀ (w1 : Int64) (w9 : Value) (hw9 : mNotL w9 = true), mGo mG (130, List.drop 53 mC130, [.ref p0, .long w1, .retAddr 0, .int p3, .int p4, .long x, .retAddr 0, .int p7, .int p8, w9], [], μ) r) (fun y : Int64 => r = (some (.long y), μ))) o) : ∀ (w1 : Int64), mGo mG (130, List.drop 36 mC130, [.ref p0, .long w1, .retAddr 0, .int p3, .int p4, .long s.1, .retAddr 0, .int p7, .int p8, .int s.2], [], μ) r := by
  intro w1
  unfold s130L31L36 at hr
  refine mGo.steps 2 (c' := (130, List.drop 38 mC130, [.ref p0, .long w1, .retAddr 0, .int p3, .int p4, .long s.1, .retAddr 0, .int p7, .int p8, .int s.2], [.int 3, .int s.2], μ)) rfl ?_
  rcases mIte hr with ⟨h19, hr⟩ | ⟨h19, hr⟩
  · refine gBrT (p := 3 < s.2) (y := 130) (is := List.drop 39 mC130) (L := [.ref p0, .long w1, .retAddr 0, .int p3, .int p4, .long s.1, .retAddr 0, .int p7, .int p8, .int s.2]) (st := []) (μ := μ) (t := 102) rfl h19 ?_
    obtain rfl := Option.some.inj hr
    exact hC w1 (.int s.2) rfl
  · refine gBrF (p := 3 < s.2) (y := 130) (is := List.drop 39 mC130) (L := [.ref p0, .long w1, .retAddr 0, .int p3, .int p4, .long s.1, .retAddr 0, .int p7, .int p8, .int s.2]) (st := []) (μ := μ) (t := 102) rfl h19 ?_
    refine mGo.steps 8 (c' := (130, List.drop 47 mC130, [.ref p0, .long w1, .retAddr 0, .int p3, .int p4, .long s.1, .retAddr 0, .int p7, .int p8, .int s.2], [.int s.2, .int p8, .int p4, .int p3, .ref p0, .long ((Int64.ofNat 31) * s.1)], μ)) rfl ?_
    obtain ⟨h16, hr⟩ := mIf hr
    obtain ⟨q17, h18, hr⟩ := mBi hr
    refine gCall (z := 115) (n := 4) (f := 0) (kind := 1) (a := p0) (As := [.int p3, .int p4, .int p8, .int s.2]) (y := 130) (is := List.drop 48 mC130) (L := [.ref p0, .long w1, .retAddr 0, .int p3, .int p4, .long s.1, .retAddr 0, .int p7, .int p8, .int s.2]) (rest := [.long ((Int64.ofNat 31) * s.1)]) (μ := μ) rfl (by decide) (by decide) ⟨rfl, rfl⟩ rfl h16 (Nat.le_of_ble_eq_true rfl) (Nat.le_of_ble_eq_true rfl) (t115 h18) ?_
    refine mGo.steps 5 (c' := (130, List.drop 36 mC130, [.ref p0, .long w1, .retAddr 0, .int p3, .int p4, .long (((Int64.ofNat 31) * s.1) + (Int32.toInt64 q17)), .retAddr 0, .int p7, .int p8, .int (s.2 + 1)], [], μ)) rfl ?_
    obtain rfl := Option.some.inj hr
    exact hC w1
theorem t130L31L36l (μ : mM) (p0 : Nat) (p3 : Int32) (p4 : Int32) (p7 : Int32) (p8 : Int32) {r : Option Value × mM} (n : Nat) (s : Int64 × Int32) (o : (Int64) ⊕ Int64) (hr : mLoop (s130L31L36 μ p0 p3 p4 p7 p8) n s = some o) (hC : Sum.elim (fun x : Int64 => ∀ (w1 : Int64) (w9 : Value) (hw9 : mNotL w9 = true), mGo mG (130, List.drop 53 mC130, [.ref p0, .long w1, .retAddr 0, .int p3, .int p4, .long x, .retAddr 0, .int p7, .int p8, w9], [], μ) r) (fun y : Int64 => r = (some (.long y), μ)) o) : ∀ (w1 : Int64), mGo mG (130, List.drop 36 mC130, [.ref p0, .long w1, .retAddr 0, .int p3, .int p4, .long s.1, .retAddr 0, .int p7, .int p8, .int s.2], [], μ) r :=
  mLoop_go (Hd := (fun s' : Int64 × Int32 => ∀ (w1 : Int64), mGo mG (130, List.drop 36 mC130, [.ref p0, .long w1, .retAddr 0, .int p3, .int p4, .long s'.1, .retAddr 0, .int p7, .int p8, .int s'.2], [], μ) r)) (fun s o hb hC => t130L31L36 μ p0 p3 p4 p7 p8 s o hb hC) n s o hr hC
def s130L31 (μ : mM) (p0 : Nat) (p3 : Int32) (p4 : Int32) (p7 : Int32) (s : Int64 × Int32) : Option ((Int64 × Int32) ⊕ ((Int64) ⊕ Int64)) :=
  if p7 ≤ s.2 then (some (.inr (.inl s.1))) else ((mLoop (s130L31L36 μ p0 p3 p4 p7 s.2) 1000 (s.1, 0)).bind fun o20 => Sum.elim (fun x21 => some (.inl (x21, s.2 + 1))) (fun y22 => some (.inr (.inr y22))) o20)
set_option maxRecDepth 20000 in
theorem t130L31 (μ : mM) (p0 : Nat) (p3 : Int32) (p4 : Int32) (p7 : Int32) {r : Option Value × mM} (s : Int64 × Int32) (o : ((Int64 × Int32) ⊕ ((Int64) ⊕ Int64))) (hr : s130L31 μ p0 p3 p4 p7 s = some o) (hC : Sum.elim (fun s' : Int64 × Int32 => ∀ (w1 : Int64) (w9 : Value) (hw9 : mNotL w9 = true), mGo mG (130, List.drop 31 mC130, [.ref p0, .long w1, .retAddr 0, .int p3, .int p4, .long s'.1, .retAddr 0, .int p7, .int s'.2, w9], [], μ) r) (Sum.elim (fun x : Int64 => ∀ (w0 : Value) (hw0 : mNotL w0 = true) (w1 : Int64) (w3 : Value) (hw3 : mNotL w3 = true) (w4 : Value) (hw4 : mNotL w4 = true) (w7 : Value) (hw7 : mNotL w7 = true) (w8 : Value) (hw8 : mNotL w8 = true) (w9 : Value) (hw9 : mNotL w9 = true), mGo mG (130, List.drop 55 mC130, [w0, .long w1, .retAddr 0, w3, w4, .long x, .retAddr 0, w7, w8, w9], [], μ) r) (fun y : Int64 => r = (some (.long y), μ))) o) : ∀ (w1 : Int64) (w9 : Value) (hw9 : mNotL w9 = true), mGo mG (130, List.drop 31 mC130, [.ref p0, .long w1, .retAddr 0, .int p3, .int p4, .long s.1, .retAddr 0, .int p7, .int s.2, w9], [], μ) r := by
  intro w1 w9 hw9
  unfold s130L31 at hr
  refine mGo.steps 2 (c' := (130, List.drop 33 mC130, [.ref p0, .long w1, .retAddr 0, .int p3, .int p4, .long s.1, .retAddr 0, .int p7, .int s.2, w9], [.int p7, .int s.2], μ)) rfl ?_
  rcases mIte hr with ⟨h24, hr⟩ | ⟨h24, hr⟩
  · refine gBrT (p := p7 ≤ s.2) (y := 130) (is := List.drop 34 mC130) (L := [.ref p0, .long w1, .retAddr 0, .int p3, .int p4, .long s.1, .retAddr 0, .int p7, .int s.2, w9]) (st := []) (μ := μ) (t := 108) rfl h24 ?_
    obtain rfl := Option.some.inj hr
    exact hC (.ref p0) rfl w1 (.int p3) rfl (.int p4) rfl (.int p7) rfl (.int s.2) rfl w9 hw9
  · refine gBrF (p := p7 ≤ s.2) (y := 130) (is := List.drop 34 mC130) (L := [.ref p0, .long w1, .retAddr 0, .int p3, .int p4, .long s.1, .retAddr 0, .int p7, .int s.2, w9]) (st := []) (μ := μ) (t := 108) rfl h24 ?_
    refine mGo.steps 2 (c' := (130, List.drop 36 mC130, [.ref p0, .long w1, .retAddr 0, .int p3, .int p4, .long s.1, .retAddr 0, .int p7, .int s.2, .int 0], [], μ)) rfl ?_
    obtain ⟨o20, h23, hr⟩ := mBi hr
    refine t130L31L36l μ p0 p3 p4 p7 s.2 1000 (s.1, 0) o20 h23 ?_ w1
    cases o20 with
    | inl x21 =>
      show ∀ (w1 : Int64) (w9 : Value) (hw9 : mNotL w9 = true), mGo mG (130, List.drop 53 mC130, [.ref p0, .long w1, .retAddr 0, .int p3, .int p4, .long x21, .retAddr 0, .int p7, .int s.2, w9], [], μ) r
      intro w1 w9 hw9
      replace hr : (_) = some _ := hr
      refine mGo.steps 2 (c' := (130, List.drop 31 mC130, [.ref p0, .long w1, .retAddr 0, .int p3, .int p4, .long x21, .retAddr 0, .int p7, .int (s.2 + 1), w9], [], μ)) rfl ?_
      obtain rfl := Option.some.inj hr
      exact hC w1 w9 hw9
    | inr y22 =>
      obtain rfl := Option.some.inj hr
      exact hC
theorem t130L31l (μ : mM) (p0 : Nat) (p3 : Int32) (p4 : Int32) (p7 : Int32) {r : Option Value × mM} (n : Nat) (s : Int64 × Int32) (o : (Int64) ⊕ Int64) (hr : mLoop (s130L31 μ p0 p3 p4 p7) n s = some o) (hC : Sum.elim (fun x : Int64 => ∀ (w0 : Value) (hw0 : mNotL w0 = true) (w1 : Int64) (w3 : Value) (hw3 : mNotL w3 = true) (w4 : Value) (hw4 : mNotL w4 = true) (w7 : Value) (hw7 : mNotL w7 = true) (w8 : Value) (hw8 : mNotL w8 = true) (w9 : Value) (hw9 : mNotL w9 = true), mGo mG (130, List.drop 55 mC130, [w0, .long w1, .retAddr 0, w3, w4, .long x, .retAddr 0, w7, w8, w9], [], μ) r) (fun y : Int64 => r = (some (.long y), μ)) o) : ∀ (w1 : Int64) (w9 : Value) (hw9 : mNotL w9 = true), mGo mG (130, List.drop 31 mC130, [.ref p0, .long w1, .retAddr 0, .int p3, .int p4, .long s.1, .retAddr 0, .int p7, .int s.2, w9], [], μ) r :=
  mLoop_go (Hd := (fun s' : Int64 × Int32 => ∀ (w1 : Int64) (w9 : Value) (hw9 : mNotL w9 = true), mGo mG (130, List.drop 31 mC130, [.ref p0, .long w1, .retAddr 0, .int p3, .int p4, .long s'.1, .retAddr 0, .int p7, .int s'.2, w9], [], μ) r)) (fun s o hb hC => t130L31 μ p0 p3 p4 p7 s o hb hC) n s o hr hC
def s130 (μ : mM) (a0 : Nat) (a1 : Int64) (a2 : Int32) (a3 : Int32) : Option Int64 :=
  (mLoop (s130L4 μ a0 a2 a3) 1000 (a1, 0)).bind fun o5 => Sum.elim (fun x6 => if (mS μ a0).1 = 8 then if (mS μ (mP μ a0 1)).1 = 1 then if (mS μ (mP μ (mP μ a0 1) 1)).1 = 20 + 6 ∧ mInb a2 (mS μ (mP μ (mP μ a0 1) 1)).2 then if (mS μ (mP μ (mP μ (mP μ a0 1) 1) (Int32.toNatClampNeg a2))).1 = 6 then (s78 μ (mP μ (mP μ (mP μ a0 1) 1) (Int32.toNatClampNeg a2)) a3).bind fun q13 => if (mS μ q13).1 = 7 then (mLoop (s130L31 μ a0 a2 a3 (mI μ q13 1)) 1000 (x6, 0)).bind fun o25 => Sum.elim (fun x26 => some x26) (fun y27 => some y27) o25 else none else none else none else none else none) (fun y7 => some y7) o5
set_option maxRecDepth 20000 in
theorem t130 {μ : mM} {a0 : Nat} {a1 : Int64} {a2 : Int32} {a3 : Int32} {o : Int64} (hr : s130 μ a0 a1 a2 a3 = some o) : mEv mG 130 [.ref a0, .long a1, .int a2, .int a3] μ (some (.long o)) (μ) := by
  obtain ⟨r, hC⟩ : ∃ r : Option Value × mM, r = (some (.long o), μ) := ⟨_, rfl⟩
  show mGo mG (130, List.drop 0 mC130, [.ref a0, .long a1, .retAddr 0, .int a2, .int a3, .retAddr 0, .retAddr 0, .retAddr 0, .retAddr 0, .retAddr 0], [], μ) (some (.long o), μ)
  rw [← hC]
  unfold s130 at hr
  refine mGo.steps 4 (c' := (130, List.drop 4 mC130, [.ref a0, .long a1, .retAddr 0, .int a2, .int a3, .long a1, .retAddr 0, .int 0, .retAddr 0, .retAddr 0], [], μ)) rfl ?_
  obtain ⟨o5, h8, hr⟩ := mBi hr
  refine t130L4l μ a0 a2 a3 1000 (a1, 0) o5 h8 ?_ a1 (.retAddr 0) rfl (.retAddr 0) rfl
  cases o5 with
  | inl x6 =>
    show ∀ (w1 : Int64) (w7 : Value) (hw7 : mNotL w7 = true) (w8 : Value) (hw8 : mNotL w8 = true) (w9 : Value) (hw9 : mNotL w9 = true), mGo mG (130, List.drop 20 mC130, [.ref a0, .long w1, .retAddr 0, .int a2, .int a3, .long x6, .retAddr 0, w7, w8, w9], [], μ) r
    intro w1 w7 hw7 w8 hw8 w9 hw9
    replace hr : (_) = some _ := hr
    refine mGo.steps 1 (c' := (130, List.drop 21 mC130, [.ref a0, .long w1, .retAddr 0, .int a2, .int a3, .long x6, .retAddr 0, w7, w8, w9], [.ref a0], μ)) rfl ?_
    obtain ⟨h9, hr⟩ := mIf hr
    refine gGet (is := List.drop 22 mC130) (v := .ref (mP μ a0 1)) h9 rfl ?_
    obtain ⟨h10, hr⟩ := mIf hr
    refine gGet (is := List.drop 23 mC130) (v := .ref (mP μ (mP μ a0 1) 1)) h10 rfl ?_
    refine mGo.steps 1 (c' := (130, List.drop 24 mC130, [.ref a0, .long w1, .retAddr 0, .int a2, .int a3, .long x6, .retAddr 0, w7, w8, w9], [.int a2, .ref (mP μ (mP μ a0 1) 1)], μ)) rfl ?_
    obtain ⟨h11, hr⟩ := mIf hr
    refine gAald (is := List.drop 25 mC130) h11 ?_
    refine mGo.steps 1 (c' := (130, List.drop 26 mC130, [.ref a0, .long w1, .retAddr 0, .int a2, .int a3, .long x6, .retAddr 0, w7, w8, w9], [.int a3, .ref (mP μ (mP μ (mP μ a0 1) 1) (Int32.toNatClampNeg a2))], μ)) rfl ?_
    obtain ⟨h12, hr⟩ := mIf hr
    obtain ⟨q13, h14, hr⟩ := mBi hr
    refine gCall (z := 78) (n := 1) (f := 0) (kind := 1) (a := (mP μ (mP μ (mP μ a0 1) 1) (Int32.toNatClampNeg a2))) (As := [.int a3]) (y := 130) (is := List.drop 27 mC130) (L := [.ref a0, .long w1, .retAddr 0, .int a2, .int a3, .long x6, .retAddr 0, w7, w8, w9]) (rest := []) (μ := μ) rfl (by decide) (by decide) ⟨rfl, rfl⟩ rfl h12 (Nat.le_of_ble_eq_true rfl) (Nat.le_of_ble_eq_true rfl) (t78 h14) ?_
    obtain ⟨h15, hr⟩ := mIf hr
    refine gGet (is := List.drop 28 mC130) (v := .int (mI μ q13 1)) h15 rfl ?_
    refine mGo.steps 3 (c' := (130, List.drop 31 mC130, [.ref a0, .long w1, .retAddr 0, .int a2, .int a3, .long x6, .retAddr 0, .int (mI μ q13 1), .int 0, w9], [], μ)) rfl ?_
    obtain ⟨o25, h28, hr⟩ := mBi hr
    refine t130L31l μ a0 a2 a3 (mI μ q13 1) 1000 (x6, 0) o25 h28 ?_ w1 w9 hw9
    cases o25 with
    | inl x26 =>
      show ∀ (w0 : Value) (hw0 : mNotL w0 = true) (w1 : Int64) (w3 : Value) (hw3 : mNotL w3 = true) (w4 : Value) (hw4 : mNotL w4 = true) (w7 : Value) (hw7 : mNotL w7 = true) (w8 : Value) (hw8 : mNotL w8 = true) (w9 : Value) (hw9 : mNotL w9 = true), mGo mG (130, List.drop 55 mC130, [w0, .long w1, .retAddr 0, w3, w4, .long x26, .retAddr 0, w7, w8, w9], [], μ) r
      intro w0 hw0 w1 w3 hw3 w4 hw4 w7 hw7 w8 hw8 w9 hw9
      replace hr : (_) = some _ := hr
      refine mGo.steps 1 (c' := (130, List.drop 56 mC130, [w0, .long w1, .retAddr 0, w3, w4, .long x26, .retAddr 0, w7, w8, w9], [.long x26], μ)) rfl ?_
      obtain rfl := Option.some.inj hr
      rw [show r = _ from hC]
      exact gLret rfl
    | inr y27 =>
      obtain rfl := Option.some.inj hr
      exact hC
  | inr y7 =>
    obtain rfl := Option.some.inj hr
    exact hC

/-! 129: TunnelFabric.digestTunnel(JI)J -/
def s129L4 (μ : mM) (p0 : Nat) (p3 : Int32) (s : Int64 × Int32) : Option ((Int64 × Int32) ⊕ ((Int64) ⊕ Int64)) :=
  if 5 < s.2 then (some (.inr (.inl s.1))) else (if (mS μ p0).1 = 8 then (s114 μ p0 p3 s.2).bind fun q2 => some (.inl (((Int64.ofNat 31) * s.1) + (Int32.toInt64 q2), s.2 + 1)) else none)
set_option maxRecDepth 20000 in
theorem t129L4 (μ : mM) (p0 : Nat) (p3 : Int32) {r : Option Value × mM} (s : Int64 × Int32) (o : ((Int64 × Int32) ⊕ ((Int64) ⊕ Int64))) (hr : s129L4 μ p0 p3 s = some o) (hC : Sum.elim (fun s' : Int64 × Int32 => ∀ (w1 : Int64), mGo mG (129, List.drop 4 mC129, [.ref p0, .long w1, .retAddr 0, .int p3, .long s'.1, .retAddr 0, .int s'.2], [], μ) r) (Sum.elim (fun x : Int64 => ∀ (w1 : Int64) (w6 : Value) (hw6 : mNotL w6 = true), mGo mG (129, List.drop 19 mC129, [.ref p0, .long w1, .retAddr 0, .int p3, .long x, .retAddr 0, w6], [], μ) r) (fun y : Int64 => r = (some (.long y), μ))) o) : ∀ (w1 : Int64), mGo mG (129, List.drop 4 mC129, [.ref p0, .long w1, .retAddr 0, .int p3, .long s.1, .retAddr 0, .int s.2], [], μ) r := by
  intro w1
  unfold s129L4 at hr
  refine mGo.steps 2 (c' := (129, List.drop 6 mC129, [.ref p0, .long w1, .retAddr 0, .int p3, .long s.1, .retAddr 0, .int s.2], [.int 5, .int s.2], μ)) rfl ?_
  rcases mIte hr with ⟨h4, hr⟩ | ⟨h4, hr⟩
  · refine gBrT (p := 5 < s.2) (y := 129) (is := List.drop 7 mC129) (L := [.ref p0, .long w1, .retAddr 0, .int p3, .long s.1, .retAddr 0, .int s.2]) (st := []) (μ := μ) (t := 35) rfl h4 ?_
    obtain rfl := Option.some.inj hr
    exact hC w1 (.int s.2) rfl
  · refine gBrF (p := 5 < s.2) (y := 129) (is := List.drop 7 mC129) (L := [.ref p0, .long w1, .retAddr 0, .int p3, .long s.1, .retAddr 0, .int s.2]) (st := []) (μ := μ) (t := 35) rfl h4 ?_
    refine mGo.steps 6 (c' := (129, List.drop 13 mC129, [.ref p0, .long w1, .retAddr 0, .int p3, .long s.1, .retAddr 0, .int s.2], [.int s.2, .int p3, .ref p0, .long ((Int64.ofNat 31) * s.1)], μ)) rfl ?_
    obtain ⟨h1, hr⟩ := mIf hr
    obtain ⟨q2, h3, hr⟩ := mBi hr
    refine gCall (z := 114) (n := 2) (f := 0) (kind := 1) (a := p0) (As := [.int p3, .int s.2]) (y := 129) (is := List.drop 14 mC129) (L := [.ref p0, .long w1, .retAddr 0, .int p3, .long s.1, .retAddr 0, .int s.2]) (rest := [.long ((Int64.ofNat 31) * s.1)]) (μ := μ) rfl (by decide) (by decide) ⟨rfl, rfl⟩ rfl h1 (Nat.le_of_ble_eq_true rfl) (Nat.le_of_ble_eq_true rfl) (t114 h3) ?_
    refine mGo.steps 5 (c' := (129, List.drop 4 mC129, [.ref p0, .long w1, .retAddr 0, .int p3, .long (((Int64.ofNat 31) * s.1) + (Int32.toInt64 q2)), .retAddr 0, .int (s.2 + 1)], [], μ)) rfl ?_
    obtain rfl := Option.some.inj hr
    exact hC w1
theorem t129L4l (μ : mM) (p0 : Nat) (p3 : Int32) {r : Option Value × mM} (n : Nat) (s : Int64 × Int32) (o : (Int64) ⊕ Int64) (hr : mLoop (s129L4 μ p0 p3) n s = some o) (hC : Sum.elim (fun x : Int64 => ∀ (w1 : Int64) (w6 : Value) (hw6 : mNotL w6 = true), mGo mG (129, List.drop 19 mC129, [.ref p0, .long w1, .retAddr 0, .int p3, .long x, .retAddr 0, w6], [], μ) r) (fun y : Int64 => r = (some (.long y), μ)) o) : ∀ (w1 : Int64), mGo mG (129, List.drop 4 mC129, [.ref p0, .long w1, .retAddr 0, .int p3, .long s.1, .retAddr 0, .int s.2], [], μ) r :=
  mLoop_go (Hd := (fun s' : Int64 × Int32 => ∀ (w1 : Int64), mGo mG (129, List.drop 4 mC129, [.ref p0, .long w1, .retAddr 0, .int p3, .long s'.1, .retAddr 0, .int s'.2], [], μ) r)) (fun s o hb hC => t129L4 μ p0 p3 s o hb hC) n s o hr hC
def s129L21_39 (μ : mM) (p0 : Nat) (p3 : Int32) (v4 : Int64) (v6 : Int32) : Option ((Int64 × Int32) ⊕ ((Int64) ⊕ Int64)) :=
  some (.inl (v4, v6 + 1))
set_option maxRecDepth 20000 in
theorem t129L21_39 (μ : mM) (p0 : Nat) (p3 : Int32) (v4 : Int64) (v6 : Int32) (w1 : Int64) {o : ((Int64 × Int32) ⊕ ((Int64) ⊕ Int64))} {r : Option Value × mM} (hr : s129L21_39 μ p0 p3 v4 v6 = some o) (hC : Sum.elim (fun s' : Int64 × Int32 => ∀ (w1 : Int64), mGo mG (129, List.drop 21 mC129, [.ref p0, .long w1, .retAddr 0, .int p3, .long s'.1, .retAddr 0, .int s'.2], [], μ) r) (Sum.elim (fun x : Int64 => ∀ (w0 : Value) (hw0 : mNotL w0 = true) (w1 : Int64) (w3 : Value) (hw3 : mNotL w3 = true) (w6 : Value) (hw6 : mNotL w6 = true), mGo mG (129, List.drop 41 mC129, [w0, .long w1, .retAddr 0, w3, .long x, .retAddr 0, w6], [], μ) r) (fun y : Int64 => r = (some (.long y), μ))) o) : mGo mG (129, List.drop 39 mC129, [.ref p0, .long w1, .retAddr 0, .int p3, .long v4, .retAddr 0, .int v6], [], μ) r := by
  unfold s129L21_39 at hr
  refine mGo.steps 2 (c' := (129, List.drop 21 mC129, [.ref p0, .long w1, .retAddr 0, .int p3, .long v4, .retAddr 0, .int (v6 + 1)], [], μ)) rfl ?_
  obtain rfl := Option.some.inj hr
  exact hC w1
def s129L21 (μ : mM) (p0 : Nat) (p3 : Int32) (s : Int64 × Int32) : Option ((Int64 × Int32) ⊕ ((Int64) ⊕ Int64)) :=
  if 2 ≤ s.2 then (some (.inr (.inl s.1))) else (if (mS μ p0).1 = 8 then if (mS μ (mP μ p0 1)).1 = 1 then if (mS μ (mP μ (mP μ p0 1) 1)).1 = 20 + 6 ∧ mInb p3 (mS μ (mP μ (mP μ p0 1) 1)).2 then if (mS μ (mP μ (mP μ (mP μ p0 1) 1) (Int32.toNatClampNeg p3))).1 = 6 then (s78 μ (mP μ (mP μ (mP μ p0 1) 1) (Int32.toNatClampNeg p3)) s.2).bind fun q13 => if (mS μ q13).1 = 7 then if (mI μ q13 0) = 0 then (s129L21_39 μ p0 p3 s.1 s.2) else ((s130 μ p0 s.1 p3 s.2).bind fun q16 => s129L21_39 μ p0 p3 q16 s.2) else none else none else none else none else none)
set_option maxRecDepth 20000 in
theorem t129L21 (μ : mM) (p0 : Nat) (p3 : Int32) {r : Option Value × mM} (s : Int64 × Int32) (o : ((Int64 × Int32) ⊕ ((Int64) ⊕ Int64))) (hr : s129L21 μ p0 p3 s = some o) (hC : Sum.elim (fun s' : Int64 × Int32 => ∀ (w1 : Int64), mGo mG (129, List.drop 21 mC129, [.ref p0, .long w1, .retAddr 0, .int p3, .long s'.1, .retAddr 0, .int s'.2], [], μ) r) (Sum.elim (fun x : Int64 => ∀ (w0 : Value) (hw0 : mNotL w0 = true) (w1 : Int64) (w3 : Value) (hw3 : mNotL w3 = true) (w6 : Value) (hw6 : mNotL w6 = true), mGo mG (129, List.drop 41 mC129, [w0, .long w1, .retAddr 0, w3, .long x, .retAddr 0, w6], [], μ) r) (fun y : Int64 => r = (some (.long y), μ))) o) : ∀ (w1 : Int64), mGo mG (129, List.drop 21 mC129, [.ref p0, .long w1, .retAddr 0, .int p3, .long s.1, .retAddr 0, .int s.2], [], μ) r := by
  intro w1
  unfold s129L21 at hr
  refine mGo.steps 2 (c' := (129, List.drop 23 mC129, [.ref p0, .long w1, .retAddr 0, .int p3, .long s.1, .retAddr 0, .int s.2], [.int 2, .int s.2], μ)) rfl ?_
  rcases mIte hr with ⟨h19, hr⟩ | ⟨h19, hr⟩
  · refine gBrT (p := 2 ≤ s.2) (y := 129) (is := List.drop 24 mC129) (L := [.ref p0, .long w1, .retAddr 0, .int p3, .long s.1, .retAddr 0, .int s.2]) (st := []) (μ := μ) (t := 81) rfl h19 ?_
    obtain rfl := Option.some.inj hr
    exact hC (.ref p0) rfl w1 (.int p3) rfl (.int s.2) rfl
  · refine gBrF (p := 2 ≤ s.2) (y := 129) (is := List.drop 24 mC129) (L := [.ref p0, .long w1, .retAddr 0, .int p3, .long s.1, .retAddr 0, .int s.2]) (st := []) (μ := μ) (t := 81) rfl h19 ?_
    refine mGo.steps 1 (c' := (129, List.drop 25 mC129, [.ref p0, .long w1, .retAddr 0, .int p3, .long s.1, .retAddr 0, .int s.2], [.ref p0], μ)) rfl ?_
    obtain ⟨h9, hr⟩ := mIf hr
    refine gGet (is := List.drop 26 mC129) (v := .ref (mP μ p0 1)) h9 rfl ?_
    obtain ⟨h10, hr⟩ := mIf hr
    refine gGet (is := List.drop 27 mC129) (v := .ref (mP μ (mP μ p0 1) 1)) h10 rfl ?_
    refine mGo.steps 1 (c' := (129, List.drop 28 mC129, [.ref p0, .long w1, .retAddr 0, .int p3, .long s.1, .retAddr 0, .int s.2], [.int p3, .ref (mP μ (mP μ p0 1) 1)], μ)) rfl ?_
    obtain ⟨h11, hr⟩ := mIf hr
    refine gAald (is := List.drop 29 mC129) h11 ?_
    refine mGo.steps 1 (c' := (129, List.drop 30 mC129, [.ref p0, .long w1, .retAddr 0, .int p3, .long s.1, .retAddr 0, .int s.2], [.int s.2, .ref (mP μ (mP μ (mP μ p0 1) 1) (Int32.toNatClampNeg p3))], μ)) rfl ?_
    obtain ⟨h12, hr⟩ := mIf hr
    obtain ⟨q13, h14, hr⟩ := mBi hr
    refine gCall (z := 78) (n := 1) (f := 0) (kind := 1) (a := (mP μ (mP μ (mP μ p0 1) 1) (Int32.toNatClampNeg p3))) (As := [.int s.2]) (y := 129) (is := List.drop 31 mC129) (L := [.ref p0, .long w1, .retAddr 0, .int p3, .long s.1, .retAddr 0, .int s.2]) (rest := []) (μ := μ) rfl (by decide) (by decide) ⟨rfl, rfl⟩ rfl h12 (Nat.le_of_ble_eq_true rfl) (Nat.le_of_ble_eq_true rfl) (t78 h14) ?_
    obtain ⟨h15, hr⟩ := mIf hr
    refine gGet (is := List.drop 32 mC129) (v := .int (mI μ q13 0)) h15 rfl ?_
    rcases mIte hr with ⟨h18, hr⟩ | ⟨h18, hr⟩
    · refine gBrT (p := (mI μ q13 0) = 0) (y := 129) (is := List.drop 33 mC129) (L := [.ref p0, .long w1, .retAddr 0, .int p3, .long s.1, .retAddr 0, .int s.2]) (st := []) (μ := μ) (t := 75) rfl h18 ?_
      exact t129L21_39 μ p0 p3 s.1 s.2 w1 hr hC
    · refine gBrF (p := (mI μ q13 0) = 0) (y := 129) (is := List.drop 33 mC129) (L := [.ref p0, .long w1, .retAddr 0, .int p3, .long s.1, .retAddr 0, .int s.2]) (st := []) (μ := μ) (t := 75) rfl h18 ?_
      refine mGo.steps 4 (c' := (129, List.drop 37 mC129, [.ref p0, .long w1, .retAddr 0, .int p3, .long s.1, .retAddr 0, .int s.2], [.int s.2, .int p3, .long s.1, .ref p0], μ)) rfl ?_
      obtain ⟨q16, h17, hr⟩ := mBi hr
      refine gCall (z := 130) (n := 3) (f := 0) (kind := 1) (a := p0) (As := [.long s.1, .int p3, .int s.2]) (y := 129) (is := List.drop 38 mC129) (L := [.ref p0, .long w1, .retAddr 0, .int p3, .long s.1, .retAddr 0, .int s.2]) (rest := []) (μ := μ) rfl (by decide) (by decide) ⟨rfl, rfl⟩ rfl h9 (Nat.le_of_ble_eq_true rfl) (Nat.le_of_ble_eq_true rfl) (t130 h17) ?_
      refine mGo.steps 1 (c' := (129, List.drop 39 mC129, [.ref p0, .long w1, .retAddr 0, .int p3, .long q16, .retAddr 0, .int s.2], [], μ)) rfl ?_
      exact t129L21_39 μ p0 p3 q16 s.2 w1 hr hC
theorem t129L21l (μ : mM) (p0 : Nat) (p3 : Int32) {r : Option Value × mM} (n : Nat) (s : Int64 × Int32) (o : (Int64) ⊕ Int64) (hr : mLoop (s129L21 μ p0 p3) n s = some o) (hC : Sum.elim (fun x : Int64 => ∀ (w0 : Value) (hw0 : mNotL w0 = true) (w1 : Int64) (w3 : Value) (hw3 : mNotL w3 = true) (w6 : Value) (hw6 : mNotL w6 = true), mGo mG (129, List.drop 41 mC129, [w0, .long w1, .retAddr 0, w3, .long x, .retAddr 0, w6], [], μ) r) (fun y : Int64 => r = (some (.long y), μ)) o) : ∀ (w1 : Int64), mGo mG (129, List.drop 21 mC129, [.ref p0, .long w1, .retAddr 0, .int p3, .long s.1, .retAddr 0, .int s.2], [], μ) r :=
  mLoop_go (Hd := (fun s' : Int64 × Int32 => ∀ (w1 : Int64), mGo mG (129, List.drop 21 mC129, [.ref p0, .long w1, .retAddr 0, .int p3, .long s'.1, .retAddr 0, .int s'.2], [], μ) r)) (fun s o hb hC => t129L21 μ p0 p3 s o hb hC) n s o hr hC
def s129 (μ : mM) (a0 : Nat) (a1 : Int64) (a2 : Int32) : Option Int64 :=
  (mLoop (s129L4 μ a0 a2) 1000 (a1, 0)).bind fun o5 => Sum.elim (fun x6 => (mLoop (s129L21 μ a0 a2) 1000 (x6, 0)).bind fun o20 => Sum.elim (fun x21 => some x21) (fun y22 => some y22) o20) (fun y7 => some y7) o5
set_option maxRecDepth 20000 in
theorem t129 {μ : mM} {a0 : Nat} {a1 : Int64} {a2 : Int32} {o : Int64} (hr : s129 μ a0 a1 a2 = some o) : mEv mG 129 [.ref a0, .long a1, .int a2] μ (some (.long o)) (μ) := by
  obtain ⟨r, hC⟩ : ∃ r : Option Value × mM, r = (some (.long o), μ) := ⟨_, rfl⟩
  show mGo mG (129, List.drop 0 mC129, [.ref a0, .long a1, .retAddr 0, .int a2, .retAddr 0, .retAddr 0, .retAddr 0], [], μ) (some (.long o), μ)
  rw [← hC]
  unfold s129 at hr
  refine mGo.steps 4 (c' := (129, List.drop 4 mC129, [.ref a0, .long a1, .retAddr 0, .int a2, .long a1, .retAddr 0, .int 0], [], μ)) rfl ?_
  obtain ⟨o5, h8, hr⟩ := mBi hr
  refine t129L4l μ a0 a2 1000 (a1, 0) o5 h8 ?_ a1
  cases o5 with
  | inl x6 =>
    show ∀ (w1 : Int64) (w6 : Value) (hw6 : mNotL w6 = true), mGo mG (129, List.drop 19 mC129, [.ref a0, .long w1, .retAddr 0, .int a2, .long x6, .retAddr 0, w6], [], μ) r
    intro w1 w6 hw6
    replace hr : (_) = some _ := hr
    refine mGo.steps 2 (c' := (129, List.drop 21 mC129, [.ref a0, .long w1, .retAddr 0, .int a2, .long x6, .retAddr 0, .int 0], [], μ)) rfl ?_
    obtain ⟨o20, h23, hr⟩ := mBi hr
    refine t129L21l μ a0 a2 1000 (x6, 0) o20 h23 ?_ w1
    cases o20 with
    | inl x21 =>
      show ∀ (w0 : Value) (hw0 : mNotL w0 = true) (w1 : Int64) (w3 : Value) (hw3 : mNotL w3 = true) (w6 : Value) (hw6 : mNotL w6 = true), mGo mG (129, List.drop 41 mC129, [w0, .long w1, .retAddr 0, w3, .long x21, .retAddr 0, w6], [], μ) r
      intro w0 hw0 w1 w3 hw3 w6 hw6
      replace hr : (_) = some _ := hr
      refine mGo.steps 1 (c' := (129, List.drop 42 mC129, [w0, .long w1, .retAddr 0, w3, .long x21, .retAddr 0, w6], [.long x21], μ)) rfl ?_
      obtain rfl := Option.some.inj hr
      rw [show r = _ from hC]
      exact gLret rfl
    | inr y22 =>
      obtain rfl := Option.some.inj hr
      exact hC
  | inr y7 =>
    obtain rfl := Option.some.inj hr
    exact hC

/-! 127: TunnelFabric.digest()J -/
def s127L4 (μ : mM) (p0 : Nat) (s : Int64 × Int32) : Option ((Int64 × Int32) ⊕ ((Int64) ⊕ Int64)) :=
  if 8 < s.2 then (some (.inr (.inl s.1))) else (if (mS μ p0).1 = 8 then (s124 μ p0 s.2).bind fun q2 => some (.inl (((Int64.ofNat 31) * s.1) + (Int32.toInt64 q2), s.2 + 1)) else none)
set_option maxRecDepth 20000 in
theorem t127L4 (μ : mM) (p0 : Nat) {r : Option Value × mM} (s : Int64 × Int32) (o : ((Int64 × Int32) ⊕ ((Int64) ⊕ Int64))) (hr : s127L4 μ p0 s = some o) (hC : Sum.elim (fun s' : Int64 × Int32 => mGo mG (127, List.drop 4 mC127, [.ref p0, .long s'.1, .retAddr 0, .int s'.2], [], μ) r) (Sum.elim (fun x : Int64 => ∀ (w3 : Value) (hw3 : mNotL w3 = true), mGo mG (127, List.drop 18 mC127, [.ref p0, .long x, .retAddr 0, w3], [], μ) r) (fun y : Int64 => r = (some (.long y), μ))) o) : mGo mG (127, List.drop 4 mC127, [.ref p0, .long s.1, .retAddr 0, .int s.2], [], μ) r := by
  unfold s127L4 at hr
  refine mGo.steps 2 (c' := (127, List.drop 6 mC127, [.ref p0, .long s.1, .retAddr 0, .int s.2], [.int 8, .int s.2], μ)) rfl ?_
  rcases mIte hr with ⟨h4, hr⟩ | ⟨h4, hr⟩
  · refine gBrT (p := 8 < s.2) (y := 127) (is := List.drop 7 mC127) (L := [.ref p0, .long s.1, .retAddr 0, .int s.2]) (st := []) (μ := μ) (t := 31) rfl h4 ?_
    obtain rfl := Option.some.inj hr
    exact hC (.int s.2) rfl
  · refine gBrF (p := 8 < s.2) (y := 127) (is := List.drop 7 mC127) (L := [.ref p0, .long s.1, .retAddr 0, .int s.2]) (st := []) (μ := μ) (t := 31) rfl h4 ?_
    refine mGo.steps 5 (c' := (127, List.drop 12 mC127, [.ref p0, .long s.1, .retAddr 0, .int s.2], [.int s.2, .ref p0, .long ((Int64.ofNat 31) * s.1)], μ)) rfl ?_
    obtain ⟨h1, hr⟩ := mIf hr
    obtain ⟨q2, h3, hr⟩ := mBi hr
    refine gCall (z := 124) (n := 1) (f := 0) (kind := 1) (a := p0) (As := [.int s.2]) (y := 127) (is := List.drop 13 mC127) (L := [.ref p0, .long s.1, .retAddr 0, .int s.2]) (rest := [.long ((Int64.ofNat 31) * s.1)]) (μ := μ) rfl (by decide) (by decide) ⟨rfl, rfl⟩ rfl h1 (Nat.le_of_ble_eq_true rfl) (Nat.le_of_ble_eq_true rfl) (t124 h3) ?_
    refine mGo.steps 5 (c' := (127, List.drop 4 mC127, [.ref p0, .long (((Int64.ofNat 31) * s.1) + (Int32.toInt64 q2)), .retAddr 0, .int (s.2 + 1)], [], μ)) rfl ?_
    obtain rfl := Option.some.inj hr
    exact hC
theorem t127L4l (μ : mM) (p0 : Nat) {r : Option Value × mM} (n : Nat) (s : Int64 × Int32) (o : (Int64) ⊕ Int64) (hr : mLoop (s127L4 μ p0) n s = some o) (hC : Sum.elim (fun x : Int64 => ∀ (w3 : Value) (hw3 : mNotL w3 = true), mGo mG (127, List.drop 18 mC127, [.ref p0, .long x, .retAddr 0, w3], [], μ) r) (fun y : Int64 => r = (some (.long y), μ)) o) : mGo mG (127, List.drop 4 mC127, [.ref p0, .long s.1, .retAddr 0, .int s.2], [], μ) r :=
  mLoop_go (Hd := (fun s' : Int64 × Int32 => mGo mG (127, List.drop 4 mC127, [.ref p0, .long s'.1, .retAddr 0, .int s'.2], [], μ) r)) (fun s o hb hC => t127L4 μ p0 s o hb hC) n s o hr hC
def s127L20_38 (μ : mM) (p0 : Nat) (v3 : Int32) (t0 : Int64) : Option ((Int64 × Int32) ⊕ ((Int64) ⊕ Int64)) :=
  some (.inl (t0, v3 + 1))
set_option maxRecDepth 20000 in
theorem t127L20_38 (μ : mM) (p0 : Nat) (v3 : Int32) (t0 : Int64) (w1 : Int64) {o : ((Int64 × Int32) ⊕ ((Int64) ⊕ Int64))} {r : Option Value × mM} (hr : s127L20_38 μ p0 v3 t0 = some o) (hC : Sum.elim (fun s' : Int64 × Int32 => mGo mG (127, List.drop 20 mC127, [.ref p0, .long s'.1, .retAddr 0, .int s'.2], [], μ) r) (Sum.elim (fun x : Int64 => ∀ (w3 : Value) (hw3 : mNotL w3 = true), mGo mG (127, List.drop 41 mC127, [.ref p0, .long x, .retAddr 0, w3], [], μ) r) (fun y : Int64 => r = (some (.long y), μ))) o) : mGo mG (127, List.drop 38 mC127, [.ref p0, .long w1, .retAddr 0, .int v3], [.long t0], μ) r := by
  unfold s127L20_38 at hr
  refine mGo.steps 3 (c' := (127, List.drop 20 mC127, [.ref p0, .long t0, .retAddr 0, .int (v3 + 1)], [], μ)) rfl ?_
  obtain rfl := Option.some.inj hr
  exact hC
def s127L20 (μ : mM) (p0 : Nat) (s : Int64 × Int32) : Option ((Int64 × Int32) ⊕ ((Int64) ⊕ Int64)) :=
  if 8 ≤ s.2 then (some (.inr (.inl s.1))) else (if (mS μ p0).1 = 8 then if (mS μ (mP μ p0 1)).1 = 1 then (s15 μ (mP μ p0 1) s.2).bind fun q11 => if q11 = 0 then (s127L20_38 μ p0 s.2 (((Int64.ofNat 31) * s.1) - (Int64.ofNat 1))) else ((s128 μ p0 s.1 s.2).bind fun q13 => s127L20_38 μ p0 s.2 q13) else none else none)
set_option maxRecDepth 20000 in
theorem t127L20 (μ : mM) (p0 : Nat) {r : Option Value × mM} (s : Int64 × Int32) (o : ((Int64 × Int32) ⊕ ((Int64) ⊕ Int64))) (hr : s127L20 μ p0 s = some o) (hC : Sum.elim (fun s' : Int64 × Int32 => mGo mG (127, List.drop 20 mC127, [.ref p0, .long s'.1, .retAddr 0, .int s'.2], [], μ) r) (Sum.elim (fun x : Int64 => ∀ (w3 : Value) (hw3 : mNotL w3 = true), mGo mG (127, List.drop 41 mC127, [.ref p0, .long x, .retAddr 0, w3], [], μ) r) (fun y : Int64 => r = (some (.long y), μ))) o) : mGo mG (127, List.drop 20 mC127, [.ref p0, .long s.1, .retAddr 0, .int s.2], [], μ) r := by
  unfold s127L20 at hr
  refine mGo.steps 2 (c' := (127, List.drop 22 mC127, [.ref p0, .long s.1, .retAddr 0, .int s.2], [.int 8, .int s.2], μ)) rfl ?_
  rcases mIte hr with ⟨h16, hr⟩ | ⟨h16, hr⟩
  · refine gBrT (p := 8 ≤ s.2) (y := 127) (is := List.drop 23 mC127) (L := [.ref p0, .long s.1, .retAddr 0, .int s.2]) (st := []) (μ := μ) (t := 73) rfl h16 ?_
    obtain rfl := Option.some.inj hr
    exact hC (.int s.2) rfl
  · refine gBrF (p := 8 ≤ s.2) (y := 127) (is := List.drop 23 mC127) (L := [.ref p0, .long s.1, .retAddr 0, .int s.2]) (st := []) (μ := μ) (t := 73) rfl h16 ?_
    refine mGo.steps 1 (c' := (127, List.drop 24 mC127, [.ref p0, .long s.1, .retAddr 0, .int s.2], [.ref p0], μ)) rfl ?_
    obtain ⟨h9, hr⟩ := mIf hr
    refine gGet (is := List.drop 25 mC127) (v := .ref (mP μ p0 1)) h9 rfl ?_
    refine mGo.steps 1 (c' := (127, List.drop 26 mC127, [.ref p0, .long s.1, .retAddr 0, .int s.2], [.int s.2, .ref (mP μ p0 1)], μ)) rfl ?_
    obtain ⟨h10, hr⟩ := mIf hr
    obtain ⟨q11, h12, hr⟩ := mBi hr
    refine gCall (z := 15) (n := 1) (f := 0) (kind := 1) (a := (mP μ p0 1)) (As := [.int s.2]) (y := 127) (is := List.drop 27 mC127) (L := [.ref p0, .long s.1, .retAddr 0, .int s.2]) (rest := []) (μ := μ) rfl (by decide) (by decide) ⟨rfl, rfl⟩ rfl h10 (Nat.le_of_ble_eq_true rfl) (Nat.le_of_ble_eq_true rfl) (t15 h12) ?_
    rcases mIte hr with ⟨h15, hr⟩ | ⟨h15, hr⟩
    · refine gBrT (p := q11 = 0) (y := 127) (is := List.drop 28 mC127) (L := [.ref p0, .long s.1, .retAddr 0, .int s.2]) (st := []) (μ := μ) (t := 59) rfl h15 ?_
      refine mGo.steps 5 (c' := (127, List.drop 38 mC127, [.ref p0, .long s.1, .retAddr 0, .int s.2], [.long (((Int64.ofNat 31) * s.1) - (Int64.ofNat 1))], μ)) rfl ?_
      exact t127L20_38 μ p0 s.2 (((Int64.ofNat 31) * s.1) - (Int64.ofNat 1)) s.1 hr hC
    · refine gBrF (p := q11 = 0) (y := 127) (is := List.drop 28 mC127) (L := [.ref p0, .long s.1, .retAddr 0, .int s.2]) (st := []) (μ := μ) (t := 59) rfl h15 ?_
      refine mGo.steps 3 (c' := (127, List.drop 31 mC127, [.ref p0, .long s.1, .retAddr 0, .int s.2], [.int s.2, .long s.1, .ref p0], μ)) rfl ?_
      obtain ⟨q13, h14, hr⟩ := mBi hr
      refine gCall (z := 128) (n := 2) (f := 0) (kind := 1) (a := p0) (As := [.long s.1, .int s.2]) (y := 127) (is := List.drop 32 mC127) (L := [.ref p0, .long s.1, .retAddr 0, .int s.2]) (rest := []) (μ := μ) rfl (by decide) (by decide) ⟨rfl, rfl⟩ rfl h9 (Nat.le_of_ble_eq_true rfl) (Nat.le_of_ble_eq_true rfl) (t128 h14) ?_
      refine mGo.steps 1 (c' := (127, List.drop 38 mC127, [.ref p0, .long s.1, .retAddr 0, .int s.2], [.long q13], μ)) rfl ?_
      exact t127L20_38 μ p0 s.2 q13 s.1 hr hC
theorem t127L20l (μ : mM) (p0 : Nat) {r : Option Value × mM} (n : Nat) (s : Int64 × Int32) (o : (Int64) ⊕ Int64) (hr : mLoop (s127L20 μ p0) n s = some o) (hC : Sum.elim (fun x : Int64 => ∀ (w3 : Value) (hw3 : mNotL w3 = true), mGo mG (127, List.drop 41 mC127, [.ref p0, .long x, .retAddr 0, w3], [], μ) r) (fun y : Int64 => r = (some (.long y), μ)) o) : mGo mG (127, List.drop 20 mC127, [.ref p0, .long s.1, .retAddr 0, .int s.2], [], μ) r :=
  mLoop_go (Hd := (fun s' : Int64 × Int32 => mGo mG (127, List.drop 20 mC127, [.ref p0, .long s'.1, .retAddr 0, .int s'.2], [], μ) r)) (fun s o hb hC => t127L20 μ p0 s o hb hC) n s o hr hC
def s127L43_61 (μ : mM) (p0 : Nat) (v3 : Int32) (t0 : Int64) : Option ((Int64 × Int32) ⊕ ((Int64) ⊕ Int64)) :=
  some (.inl (t0, v3 + 1))
set_option maxRecDepth 20000 in
theorem t127L43_61 (μ : mM) (p0 : Nat) (v3 : Int32) (t0 : Int64) (w1 : Int64) {o : ((Int64 × Int32) ⊕ ((Int64) ⊕ Int64))} {r : Option Value × mM} (hr : s127L43_61 μ p0 v3 t0 = some o) (hC : Sum.elim (fun s' : Int64 × Int32 => mGo mG (127, List.drop 43 mC127, [.ref p0, .long s'.1, .retAddr 0, .int s'.2], [], μ) r) (Sum.elim (fun x : Int64 => ∀ (w0 : Value) (hw0 : mNotL w0 = true) (w3 : Value) (hw3 : mNotL w3 = true), mGo mG (127, List.drop 64 mC127, [w0, .long x, .retAddr 0, w3], [], μ) r) (fun y : Int64 => r = (some (.long y), μ))) o) : mGo mG (127, List.drop 61 mC127, [.ref p0, .long w1, .retAddr 0, .int v3], [.long t0], μ) r := by
  unfold s127L43_61 at hr
  refine mGo.steps 3 (c' := (127, List.drop 43 mC127, [.ref p0, .long t0, .retAddr 0, .int (v3 + 1)], [], μ)) rfl ?_
  obtain rfl := Option.some.inj hr
  exact hC
def s127L43 (μ : mM) (p0 : Nat) (s : Int64 × Int32) : Option ((Int64 × Int32) ⊕ ((Int64) ⊕ Int64)) :=
  if 10 ≤ s.2 then (some (.inr (.inl s.1))) else (if (mS μ p0).1 = 8 then if (mS μ (mP μ p0 1)).1 = 1 then (s17 μ (mP μ p0 1) s.2).bind fun q23 => if q23 = 0 then (s127L43_61 μ p0 s.2 (((Int64.ofNat 31) * s.1) - (Int64.ofNat 1))) else ((s129 μ p0 s.1 s.2).bind fun q25 => s127L43_61 μ p0 s.2 q25) else none else none)
set_option maxRecDepth 20000 in
theorem t127L43 (μ : mM) (p0 : Nat) {r : Option Value × mM} (s : Int64 × Int32) (o : ((Int64 × Int32) ⊕ ((Int64) ⊕ Int64))) (hr : s127L43 μ p0 s = some o) (hC : Sum.elim (fun s' : Int64 × Int32 => mGo mG (127, List.drop 43 mC127, [.ref p0, .long s'.1, .retAddr 0, .int s'.2], [], μ) r) (Sum.elim (fun x : Int64 => ∀ (w0 : Value) (hw0 : mNotL w0 = true) (w3 : Value) (hw3 : mNotL w3 = true), mGo mG (127, List.drop 64 mC127, [w0, .long x, .retAddr 0, w3], [], μ) r) (fun y : Int64 => r = (some (.long y), μ))) o) : mGo mG (127, List.drop 43 mC127, [.ref p0, .long s.1, .retAddr 0, .int s.2], [], μ) r := by
  unfold s127L43 at hr
  refine mGo.steps 2 (c' := (127, List.drop 45 mC127, [.ref p0, .long s.1, .retAddr 0, .int s.2], [.int 10, .int s.2], μ)) rfl ?_
  rcases mIte hr with ⟨h28, hr⟩ | ⟨h28, hr⟩
  · refine gBrT (p := 10 ≤ s.2) (y := 127) (is := List.drop 46 mC127) (L := [.ref p0, .long s.1, .retAddr 0, .int s.2]) (st := []) (μ := μ) (t := 115) rfl h28 ?_
    obtain rfl := Option.some.inj hr
    exact hC (.ref p0) rfl (.int s.2) rfl
  · refine gBrF (p := 10 ≤ s.2) (y := 127) (is := List.drop 46 mC127) (L := [.ref p0, .long s.1, .retAddr 0, .int s.2]) (st := []) (μ := μ) (t := 115) rfl h28 ?_
    refine mGo.steps 1 (c' := (127, List.drop 47 mC127, [.ref p0, .long s.1, .retAddr 0, .int s.2], [.ref p0], μ)) rfl ?_
    obtain ⟨h21, hr⟩ := mIf hr
    refine gGet (is := List.drop 48 mC127) (v := .ref (mP μ p0 1)) h21 rfl ?_
    refine mGo.steps 1 (c' := (127, List.drop 49 mC127, [.ref p0, .long s.1, .retAddr 0, .int s.2], [.int s.2, .ref (mP μ p0 1)], μ)) rfl ?_
    obtain ⟨h22, hr⟩ := mIf hr
    obtain ⟨q23, h24, hr⟩ := mBi hr
    refine gCall (z := 17) (n := 1) (f := 0) (kind := 1) (a := (mP μ p0 1)) (As := [.int s.2]) (y := 127) (is := List.drop 50 mC127) (L := [.ref p0, .long s.1, .retAddr 0, .int s.2]) (rest := []) (μ := μ) rfl (by decide) (by decide) ⟨rfl, rfl⟩ rfl h22 (Nat.le_of_ble_eq_true rfl) (Nat.le_of_ble_eq_true rfl) (t17 h24) ?_
    rcases mIte hr with ⟨h27, hr⟩ | ⟨h27, hr⟩
    · refine gBrT (p := q23 = 0) (y := 127) (is := List.drop 51 mC127) (L := [.ref p0, .long s.1, .retAddr 0, .int s.2]) (st := []) (μ := μ) (t := 101) rfl h27 ?_
      refine mGo.steps 5 (c' := (127, List.drop 61 mC127, [.ref p0, .long s.1, .retAddr 0, .int s.2], [.long (((Int64.ofNat 31) * s.1) - (Int64.ofNat 1))], μ)) rfl ?_
      exact t127L43_61 μ p0 s.2 (((Int64.ofNat 31) * s.1) - (Int64.ofNat 1)) s.1 hr hC
    · refine gBrF (p := q23 = 0) (y := 127) (is := List.drop 51 mC127) (L := [.ref p0, .long s.1, .retAddr 0, .int s.2]) (st := []) (μ := μ) (t := 101) rfl h27 ?_
      refine mGo.steps 3 (c' := (127, List.drop 54 mC127, [.ref p0, .long s.1, .retAddr 0, .int s.2], [.int s.2, .long s.1, .ref p0], μ)) rfl ?_
      obtain ⟨q25, h26, hr⟩ := mBi hr
      refine gCall (z := 129) (n := 2) (f := 0) (kind := 1) (a := p0) (As := [.long s.1, .int s.2]) (y := 127) (is := List.drop 55 mC127) (L := [.ref p0, .long s.1, .retAddr 0, .int s.2]) (rest := []) (μ := μ) rfl (by decide) (by decide) ⟨rfl, rfl⟩ rfl h21 (Nat.le_of_ble_eq_true rfl) (Nat.le_of_ble_eq_true rfl) (t129 h26) ?_
      refine mGo.steps 1 (c' := (127, List.drop 61 mC127, [.ref p0, .long s.1, .retAddr 0, .int s.2], [.long q25], μ)) rfl ?_
      exact t127L43_61 μ p0 s.2 q25 s.1 hr hC
theorem t127L43l (μ : mM) (p0 : Nat) {r : Option Value × mM} (n : Nat) (s : Int64 × Int32) (o : (Int64) ⊕ Int64) (hr : mLoop (s127L43 μ p0) n s = some o) (hC : Sum.elim (fun x : Int64 => ∀ (w0 : Value) (hw0 : mNotL w0 = true) (w3 : Value) (hw3 : mNotL w3 = true), mGo mG (127, List.drop 64 mC127, [w0, .long x, .retAddr 0, w3], [], μ) r) (fun y : Int64 => r = (some (.long y), μ)) o) : mGo mG (127, List.drop 43 mC127, [.ref p0, .long s.1, .retAddr 0, .int s.2], [], μ) r :=
  mLoop_go (Hd := (fun s' : Int64 × Int32 => mGo mG (127, List.drop 43 mC127, [.ref p0, .long s'.1, .retAddr 0, .int s'.2], [], μ) r)) (fun s o hb hC => t127L43 μ p0 s o hb hC) n s o hr hC
def s127 (μ : mM) (a0 : Nat) : Option Int64 :=
  (mLoop (s127L4 μ a0) 1000 (Int64.ofNat 41, 0)).bind fun o5 => Sum.elim (fun x6 => (mLoop (s127L20 μ a0) 1000 (x6, 1)).bind fun o17 => Sum.elim (fun x18 => (mLoop (s127L43 μ a0) 1000 (x18, 0)).bind fun o29 => Sum.elim (fun x30 => some x30) (fun y31 => some y31) o29) (fun y19 => some y19) o17) (fun y7 => some y7) o5
set_option maxRecDepth 20000 in
theorem t127 {μ : mM} {a0 : Nat} {o : Int64} (hr : s127 μ a0 = some o) : mEv mG 127 [.ref a0] μ (some (.long o)) (μ) := by
  obtain ⟨r, hC⟩ : ∃ r : Option Value × mM, r = (some (.long o), μ) := ⟨_, rfl⟩
  show mGo mG (127, List.drop 0 mC127, [.ref a0, .retAddr 0, .retAddr 0, .retAddr 0], [], μ) (some (.long o), μ)
  rw [← hC]
  unfold s127 at hr
  refine mGo.steps 4 (c' := (127, List.drop 4 mC127, [.ref a0, .long (Int64.ofNat 41), .retAddr 0, .int 0], [], μ)) rfl ?_
  obtain ⟨o5, h8, hr⟩ := mBi hr
  refine t127L4l μ a0 1000 (Int64.ofNat 41, 0) o5 h8 ?_ 
  cases o5 with
  | inl x6 =>
    show ∀ (w3 : Value) (hw3 : mNotL w3 = true), mGo mG (127, List.drop 18 mC127, [.ref a0, .long x6, .retAddr 0, w3], [], μ) r
    intro w3 hw3
    replace hr : (_) = some _ := hr
    refine mGo.steps 2 (c' := (127, List.drop 20 mC127, [.ref a0, .long x6, .retAddr 0, .int 1], [], μ)) rfl ?_
    obtain ⟨o17, h20, hr⟩ := mBi hr
    refine t127L20l μ a0 1000 (x6, 1) o17 h20 ?_ 
    cases o17 with
    | inl x18 =>
      show ∀ (w3 : Value) (hw3 : mNotL w3 = true), mGo mG (127, List.drop 41 mC127, [.ref a0, .long x18, .retAddr 0, w3], [], μ) r
      intro w3 hw3
      replace hr : (_) = some _ := hr
      refine mGo.steps 2 (c' := (127, List.drop 43 mC127, [.ref a0, .long x18, .retAddr 0, .int 0], [], μ)) rfl ?_
      obtain ⟨o29, h32, hr⟩ := mBi hr
      refine t127L43l μ a0 1000 (x18, 0) o29 h32 ?_ 
      cases o29 with
      | inl x30 =>
        show ∀ (w0 : Value) (hw0 : mNotL w0 = true) (w3 : Value) (hw3 : mNotL w3 = true), mGo mG (127, List.drop 64 mC127, [w0, .long x30, .retAddr 0, w3], [], μ) r
        intro w0 hw0 w3 hw3
        replace hr : (_) = some _ := hr
        refine mGo.steps 1 (c' := (127, List.drop 65 mC127, [w0, .long x30, .retAddr 0, w3], [.long x30], μ)) rfl ?_
        obtain rfl := Option.some.inj hr
        rw [show r = _ from hC]
        exact gLret rfl
      | inr y31 =>
        obtain rfl := Option.some.inj hr
        exact hC
    | inr y19 =>
      obtain rfl := Option.some.inj hr
      exact hC
  | inr y7 =>
    obtain rfl := Option.some.inj hr
    exact hC

/-! 143: TunnelFabricModel.<init>()V -/
def s143 (μ : mM) (a0 : Nat) : Option mM :=
  if ¬ a0 = 0 then (some (mNew μ 10 (Int32.toNatClampNeg 433))).bind fun μ2 => if (mS μ2 a0).1 = 9 then (some (mUP μ2 a0 0 (mNx μ))).bind fun μ4 => (some (mNew μ4 11 (Int32.toNatClampNeg 16))).bind fun μ5 => if (mS μ5 a0).1 = 9 then (some (mUP μ5 a0 1 (mNx μ4))).bind fun μ7 => (some (mNew μ7 10 (Int32.toNatClampNeg 866))).bind fun μ8 => if (mS μ8 a0).1 = 9 then (some (mUP μ8 a0 2 (mNx μ7))).bind fun μ10 => (some (mNew μ10 11 (Int32.toNatClampNeg 32))).bind fun μ11 => if (mS μ11 a0).1 = 9 then (some (mUP μ11 a0 3 (mNx μ10))).bind fun μ13 => (some (mNew μ13 12 (Int32.toNatClampNeg 2))).bind fun μ14 => if (mS μ14 a0).1 = 9 then (some (mUP μ14 a0 4 (mNx μ13))).bind fun μ16 => (some (mNew μ16 10 (Int32.toNatClampNeg 60))).bind fun μ17 => if (mS μ17 a0).1 = 9 then (some (mUP μ17 a0 5 (mNx μ16))).bind fun μ19 => (some (mNew μ19 10 (Int32.toNatClampNeg 8))).bind fun μ20 => if (mS μ20 a0).1 = 9 then (some (mUP μ20 a0 7 (mNx μ19))).bind fun μ22 => (some (mNew μ22 10 (Int32.toNatClampNeg 8))).bind fun μ23 => if (mS μ23 a0).1 = 9 then (some (mUP μ23 a0 8 (mNx μ22))).bind fun μ25 => (some (mNew μ25 10 (Int32.toNatClampNeg 8))).bind fun μ26 => if (mS μ26 a0).1 = 9 then (some (mUP μ26 a0 9 (mNx μ25))).bind fun μ28 => (some (mNew μ28 10 (Int32.toNatClampNeg 8))).bind fun μ29 => if (mS μ29 a0).1 = 9 then (some (mUP μ29 a0 10 (mNx μ28))).bind fun μ31 => (some (mNew μ31 10 (Int32.toNatClampNeg 6))).bind fun μ32 => if (mS μ32 a0).1 = 9 then (some (mUP μ32 a0 12 (mNx μ31))).bind fun μ34 => (some (mNew μ34 10 (Int32.toNatClampNeg 6))).bind fun μ35 => if (mS μ35 a0).1 = 9 then (some (mUP μ35 a0 13 (mNx μ34))).bind fun μ37 => (some (mNew μ37 10 (Int32.toNatClampNeg 80))).bind fun μ38 => if (mS μ38 a0).1 = 9 then (some (mUP μ38 a0 14 (mNx μ37))).bind fun μ40 => (some (mNew μ40 10 (Int32.toNatClampNeg 16))).bind fun μ41 => if (mS μ41 a0).1 = 9 then (some (mUP μ41 a0 15 (mNx μ40))).bind fun μ43 => (some (mNew μ43 11 (Int32.toNatClampNeg 8))).bind fun μ44 => if (mS μ44 a0).1 = 9 then (some (mUP μ44 a0 16 (mNx μ43))).bind fun μ46 => (some (mNew μ46 11 (Int32.toNatClampNeg 10))).bind fun μ47 => if (mS μ47 a0).1 = 9 then (some (mUP μ47 a0 17 (mNx μ46))).bind fun μ49 => (some (mNew μ49 12 (Int32.toNatClampNeg 10))).bind fun μ50 => if (mS μ50 a0).1 = 9 then (some (mUP μ50 a0 18 (mNx μ49))).bind fun μ52 => (some (mNew μ52 10 (Int32.toNatClampNeg 10))).bind fun μ53 => if (mS μ53 a0).1 = 9 then (some (mUP μ53 a0 19 (mNx μ52))).bind fun μ55 => if (mS μ55 (mP μ55 a0 0)).1 = 10 ∧ mInb 0 (mS μ55 (mP μ55 a0 0)).2 then (some (mUI μ55 (mP μ55 a0 0) (Int32.toNatClampNeg 0) 1)).bind fun μ57 => if (mS μ57 (mP μ57 a0 0)).1 = 10 ∧ mInb 1 (mS μ57 (mP μ57 a0 0)).2 then (some (mUI μ57 (mP μ57 a0 0) (Int32.toNatClampNeg 1) 4)).bind fun μ59 => if (mS μ59 (mP μ59 a0 0)).1 = 10 ∧ mInb 2 (mS μ59 (mP μ59 a0 0)).2 then (some (mUI μ59 (mP μ59 a0 0) (Int32.toNatClampNeg 2) 3)).bind fun μ61 => if (mS μ61 (mP μ61 a0 0)).1 = 10 ∧ mInb 431 (mS μ61 (mP μ61 a0 0)).2 then (some (mUI μ61 (mP μ61 a0 0) (Int32.toNatClampNeg 431) 3)).bind fun μ63 => some μ63 else none else none else none else none else none else none else none else none else none else none else none else none else none else none else none else none else none else none else none else none else none else none else none
set_option maxRecDepth 20000 in
theorem t143 {μ : mM} {a0 : Nat} {o : mM} (hr : s143 μ a0 = some o) : mEv mG 143 [.ref a0] μ (none) (o) := by
  obtain ⟨r, hC⟩ : ∃ r : Option Value × mM, r = (none, o) := ⟨_, rfl⟩
  show mGo mG (143, List.drop 0 mC143, [.ref a0], [], μ) (none, o)
  rw [← hC]
  unfold s143 at hr
  refine mGo.steps 1 (c' := (143, List.drop 1 mC143, [.ref a0], [.ref a0], μ)) rfl ?_
  obtain ⟨h1, hr⟩ := mIf hr
  refine gObj (is := List.drop 2 mC143) h1 (Nat.le_of_ble_eq_true rfl) ?_
  refine mGo.steps 2 (c' := (143, List.drop 4 mC143, [.ref a0], [.int 433, .ref a0], μ)) rfl ?_
  replace hr := mBs hr
  refine mGo.steps 1 (c' := (143, List.drop 5 mC143, [.ref a0], [.ref (mNx μ), .ref a0], (mNew μ 10 (Int32.toNatClampNeg 433)))) rfl ?_
  let μ2 : mM := mNew μ 10 (Int32.toNatClampNeg 433)
  obtain ⟨h3, hr⟩ := mIf hr
  replace hr := mBs hr
  refine gPut (is := List.drop 6 mC143) (μ' := mUP μ2 a0 0 (mNx μ)) h3 rfl ?_
  let μ4 : mM := mUP μ2 a0 0 (mNx μ)
  refine mGo.steps 2 (c' := (143, List.drop 8 mC143, [.ref a0], [.int 16, .ref a0], μ4)) rfl ?_
  replace hr := mBs hr
  refine mGo.steps 1 (c' := (143, List.drop 9 mC143, [.ref a0], [.ref (mNx μ4), .ref a0], (mNew μ4 11 (Int32.toNatClampNeg 16)))) rfl ?_
  let μ5 : mM := mNew μ4 11 (Int32.toNatClampNeg 16)
  obtain ⟨h6, hr⟩ := mIf hr
  replace hr := mBs hr
  refine gPut (is := List.drop 10 mC143) (μ' := mUP μ5 a0 1 (mNx μ4)) h6 rfl ?_
  let μ7 : mM := mUP μ5 a0 1 (mNx μ4)
  refine mGo.steps 2 (c' := (143, List.drop 12 mC143, [.ref a0], [.int 866, .ref a0], μ7)) rfl ?_
  replace hr := mBs hr
  refine mGo.steps 1 (c' := (143, List.drop 13 mC143, [.ref a0], [.ref (mNx μ7), .ref a0], (mNew μ7 10 (Int32.toNatClampNeg 866)))) rfl ?_
  let μ8 : mM := mNew μ7 10 (Int32.toNatClampNeg 866)
  obtain ⟨h9, hr⟩ := mIf hr
  replace hr := mBs hr
  refine gPut (is := List.drop 14 mC143) (μ' := mUP μ8 a0 2 (mNx μ7)) h9 rfl ?_
  let μ10 : mM := mUP μ8 a0 2 (mNx μ7)
  refine mGo.steps 2 (c' := (143, List.drop 16 mC143, [.ref a0], [.int 32, .ref a0], μ10)) rfl ?_
  replace hr := mBs hr
  refine mGo.steps 1 (c' := (143, List.drop 17 mC143, [.ref a0], [.ref (mNx μ10), .ref a0], (mNew μ10 11 (Int32.toNatClampNeg 32)))) rfl ?_
  let μ11 : mM := mNew μ10 11 (Int32.toNatClampNeg 32)
  obtain ⟨h12, hr⟩ := mIf hr
  replace hr := mBs hr
  refine gPut (is := List.drop 18 mC143) (μ' := mUP μ11 a0 3 (mNx μ10)) h12 rfl ?_
  let μ13 : mM := mUP μ11 a0 3 (mNx μ10)
  refine mGo.steps 2 (c' := (143, List.drop 20 mC143, [.ref a0], [.int 2, .ref a0], μ13)) rfl ?_
  replace hr := mBs hr
  refine mGo.steps 1 (c' := (143, List.drop 21 mC143, [.ref a0], [.ref (mNx μ13), .ref a0], (mNew μ13 12 (Int32.toNatClampNeg 2)))) rfl ?_
  let μ14 : mM := mNew μ13 12 (Int32.toNatClampNeg 2)
  obtain ⟨h15, hr⟩ := mIf hr
  replace hr := mBs hr
  refine gPut (is := List.drop 22 mC143) (μ' := mUP μ14 a0 4 (mNx μ13)) h15 rfl ?_
  let μ16 : mM := mUP μ14 a0 4 (mNx μ13)
  refine mGo.steps 2 (c' := (143, List.drop 24 mC143, [.ref a0], [.int 60, .ref a0], μ16)) rfl ?_
  replace hr := mBs hr
  refine mGo.steps 1 (c' := (143, List.drop 25 mC143, [.ref a0], [.ref (mNx μ16), .ref a0], (mNew μ16 10 (Int32.toNatClampNeg 60)))) rfl ?_
  let μ17 : mM := mNew μ16 10 (Int32.toNatClampNeg 60)
  obtain ⟨h18, hr⟩ := mIf hr
  replace hr := mBs hr
  refine gPut (is := List.drop 26 mC143) (μ' := mUP μ17 a0 5 (mNx μ16)) h18 rfl ?_
  let μ19 : mM := mUP μ17 a0 5 (mNx μ16)
  refine mGo.steps 2 (c' := (143, List.drop 28 mC143, [.ref a0], [.int 8, .ref a0], μ19)) rfl ?_
  replace hr := mBs hr
  refine mGo.steps 1 (c' := (143, List.drop 29 mC143, [.ref a0], [.ref (mNx μ19), .ref a0], (mNew μ19 10 (Int32.toNatClampNeg 8)))) rfl ?_
  let μ20 : mM := mNew μ19 10 (Int32.toNatClampNeg 8)
  obtain ⟨h21, hr⟩ := mIf hr
  replace hr := mBs hr
  refine gPut (is := List.drop 30 mC143) (μ' := mUP μ20 a0 7 (mNx μ19)) h21 rfl ?_
  let μ22 : mM := mUP μ20 a0 7 (mNx μ19)
  refine mGo.steps 2 (c' := (143, List.drop 32 mC143, [.ref a0], [.int 8, .ref a0], μ22)) rfl ?_
  replace hr := mBs hr
  refine mGo.steps 1 (c' := (143, List.drop 33 mC143, [.ref a0], [.ref (mNx μ22), .ref a0], (mNew μ22 10 (Int32.toNatClampNeg 8)))) rfl ?_
  let μ23 : mM := mNew μ22 10 (Int32.toNatClampNeg 8)
  obtain ⟨h24, hr⟩ := mIf hr
  replace hr := mBs hr
  refine gPut (is := List.drop 34 mC143) (μ' := mUP μ23 a0 8 (mNx μ22)) h24 rfl ?_
  let μ25 : mM := mUP μ23 a0 8 (mNx μ22)
  refine mGo.steps 2 (c' := (143, List.drop 36 mC143, [.ref a0], [.int 8, .ref a0], μ25)) rfl ?_
  replace hr := mBs hr
  refine mGo.steps 1 (c' := (143, List.drop 37 mC143, [.ref a0], [.ref (mNx μ25), .ref a0], (mNew μ25 10 (Int32.toNatClampNeg 8)))) rfl ?_
  let μ26 : mM := mNew μ25 10 (Int32.toNatClampNeg 8)
  obtain ⟨h27, hr⟩ := mIf hr
  replace hr := mBs hr
  refine gPut (is := List.drop 38 mC143) (μ' := mUP μ26 a0 9 (mNx μ25)) h27 rfl ?_
  let μ28 : mM := mUP μ26 a0 9 (mNx μ25)
  refine mGo.steps 2 (c' := (143, List.drop 40 mC143, [.ref a0], [.int 8, .ref a0], μ28)) rfl ?_
  replace hr := mBs hr
  refine mGo.steps 1 (c' := (143, List.drop 41 mC143, [.ref a0], [.ref (mNx μ28), .ref a0], (mNew μ28 10 (Int32.toNatClampNeg 8)))) rfl ?_
  let μ29 : mM := mNew μ28 10 (Int32.toNatClampNeg 8)
  obtain ⟨h30, hr⟩ := mIf hr
  replace hr := mBs hr
  refine gPut (is := List.drop 42 mC143) (μ' := mUP μ29 a0 10 (mNx μ28)) h30 rfl ?_
  let μ31 : mM := mUP μ29 a0 10 (mNx μ28)
  refine mGo.steps 2 (c' := (143, List.drop 44 mC143, [.ref a0], [.int 6, .ref a0], μ31)) rfl ?_
  replace hr := mBs hr
  refine mGo.steps 1 (c' := (143, List.drop 45 mC143, [.ref a0], [.ref (mNx μ31), .ref a0], (mNew μ31 10 (Int32.toNatClampNeg 6)))) rfl ?_
  let μ32 : mM := mNew μ31 10 (Int32.toNatClampNeg 6)
  obtain ⟨h33, hr⟩ := mIf hr
  replace hr := mBs hr
  refine gPut (is := List.drop 46 mC143) (μ' := mUP μ32 a0 12 (mNx μ31)) h33 rfl ?_
  let μ34 : mM := mUP μ32 a0 12 (mNx μ31)
  refine mGo.steps 2 (c' := (143, List.drop 48 mC143, [.ref a0], [.int 6, .ref a0], μ34)) rfl ?_
  replace hr := mBs hr
  refine mGo.steps 1 (c' := (143, List.drop 49 mC143, [.ref a0], [.ref (mNx μ34), .ref a0], (mNew μ34 10 (Int32.toNatClampNeg 6)))) rfl ?_
  let μ35 : mM := mNew μ34 10 (Int32.toNatClampNeg 6)
  obtain ⟨h36, hr⟩ := mIf hr
  replace hr := mBs hr
  refine gPut (is := List.drop 50 mC143) (μ' := mUP μ35 a0 13 (mNx μ34)) h36 rfl ?_
  let μ37 : mM := mUP μ35 a0 13 (mNx μ34)
  refine mGo.steps 2 (c' := (143, List.drop 52 mC143, [.ref a0], [.int 80, .ref a0], μ37)) rfl ?_
  replace hr := mBs hr
  refine mGo.steps 1 (c' := (143, List.drop 53 mC143, [.ref a0], [.ref (mNx μ37), .ref a0], (mNew μ37 10 (Int32.toNatClampNeg 80)))) rfl ?_
  let μ38 : mM := mNew μ37 10 (Int32.toNatClampNeg 80)
  obtain ⟨h39, hr⟩ := mIf hr
  replace hr := mBs hr
  refine gPut (is := List.drop 54 mC143) (μ' := mUP μ38 a0 14 (mNx μ37)) h39 rfl ?_
  let μ40 : mM := mUP μ38 a0 14 (mNx μ37)
  refine mGo.steps 2 (c' := (143, List.drop 56 mC143, [.ref a0], [.int 16, .ref a0], μ40)) rfl ?_
  replace hr := mBs hr
  refine mGo.steps 1 (c' := (143, List.drop 57 mC143, [.ref a0], [.ref (mNx μ40), .ref a0], (mNew μ40 10 (Int32.toNatClampNeg 16)))) rfl ?_
  let μ41 : mM := mNew μ40 10 (Int32.toNatClampNeg 16)
  obtain ⟨h42, hr⟩ := mIf hr
  replace hr := mBs hr
  refine gPut (is := List.drop 58 mC143) (μ' := mUP μ41 a0 15 (mNx μ40)) h42 rfl ?_
  let μ43 : mM := mUP μ41 a0 15 (mNx μ40)
  refine mGo.steps 2 (c' := (143, List.drop 60 mC143, [.ref a0], [.int 8, .ref a0], μ43)) rfl ?_
  replace hr := mBs hr
  refine mGo.steps 1 (c' := (143, List.drop 61 mC143, [.ref a0], [.ref (mNx μ43), .ref a0], (mNew μ43 11 (Int32.toNatClampNeg 8)))) rfl ?_
  let μ44 : mM := mNew μ43 11 (Int32.toNatClampNeg 8)
  obtain ⟨h45, hr⟩ := mIf hr
  replace hr := mBs hr
  refine gPut (is := List.drop 62 mC143) (μ' := mUP μ44 a0 16 (mNx μ43)) h45 rfl ?_
  let μ46 : mM := mUP μ44 a0 16 (mNx μ43)
  refine mGo.steps 2 (c' := (143, List.drop 64 mC143, [.ref a0], [.int 10, .ref a0], μ46)) rfl ?_
  replace hr := mBs hr
  refine mGo.steps 1 (c' := (143, List.drop 65 mC143, [.ref a0], [.ref (mNx μ46), .ref a0], (mNew μ46 11 (Int32.toNatClampNeg 10)))) rfl ?_
  let μ47 : mM := mNew μ46 11 (Int32.toNatClampNeg 10)
  obtain ⟨h48, hr⟩ := mIf hr
  replace hr := mBs hr
  refine gPut (is := List.drop 66 mC143) (μ' := mUP μ47 a0 17 (mNx μ46)) h48 rfl ?_
  let μ49 : mM := mUP μ47 a0 17 (mNx μ46)
  refine mGo.steps 2 (c' := (143, List.drop 68 mC143, [.ref a0], [.int 10, .ref a0], μ49)) rfl ?_
  replace hr := mBs hr
  refine mGo.steps 1 (c' := (143, List.drop 69 mC143, [.ref a0], [.ref (mNx μ49), .ref a0], (mNew μ49 12 (Int32.toNatClampNeg 10)))) rfl ?_
  let μ50 : mM := mNew μ49 12 (Int32.toNatClampNeg 10)
  obtain ⟨h51, hr⟩ := mIf hr
  replace hr := mBs hr
  refine gPut (is := List.drop 70 mC143) (μ' := mUP μ50 a0 18 (mNx μ49)) h51 rfl ?_
  let μ52 : mM := mUP μ50 a0 18 (mNx μ49)
  refine mGo.steps 2 (c' := (143, List.drop 72 mC143, [.ref a0], [.int 10, .ref a0], μ52)) rfl ?_
  replace hr := mBs hr
  refine mGo.steps 1 (c' := (143, List.drop 73 mC143, [.ref a0], [.ref (mNx μ52), .ref a0], (mNew μ52 10 (Int32.toNatClampNeg 10)))) rfl ?_
  let μ53 : mM := mNew μ52 10 (Int32.toNatClampNeg 10)
  obtain ⟨h54, hr⟩ := mIf hr
  replace hr := mBs hr
  refine gPut (is := List.drop 74 mC143) (μ' := mUP μ53 a0 19 (mNx μ52)) h54 rfl ?_
  let μ55 : mM := mUP μ53 a0 19 (mNx μ52)
  refine mGo.steps 1 (c' := (143, List.drop 75 mC143, [.ref a0], [.ref a0], μ55)) rfl ?_
  refine gGet (is := List.drop 76 mC143) (v := .ref (mP μ55 a0 0)) h54 rfl ?_
  refine mGo.steps 2 (c' := (143, List.drop 78 mC143, [.ref a0], [.int 1, .int 0, .ref (mP μ55 a0 0)], μ55)) rfl ?_
  obtain ⟨h56, hr⟩ := mIf hr
  replace hr := mBs hr
  refine gIast (is := List.drop 79 mC143) h56 ?_
  let μ57 : mM := mUI μ55 (mP μ55 a0 0) (Int32.toNatClampNeg 0) 1
  refine mGo.steps 1 (c' := (143, List.drop 80 mC143, [.ref a0], [.ref a0], μ57)) rfl ?_
  refine gGet (is := List.drop 81 mC143) (v := .ref (mP μ57 a0 0)) h54 rfl ?_
  refine mGo.steps 2 (c' := (143, List.drop 83 mC143, [.ref a0], [.int 4, .int 1, .ref (mP μ57 a0 0)], μ57)) rfl ?_
  obtain ⟨h58, hr⟩ := mIf hr
  replace hr := mBs hr
  refine gIast (is := List.drop 84 mC143) h58 ?_
  let μ59 : mM := mUI μ57 (mP μ57 a0 0) (Int32.toNatClampNeg 1) 4
  refine mGo.steps 1 (c' := (143, List.drop 85 mC143, [.ref a0], [.ref a0], μ59)) rfl ?_
  refine gGet (is := List.drop 86 mC143) (v := .ref (mP μ59 a0 0)) h54 rfl ?_
  refine mGo.steps 2 (c' := (143, List.drop 88 mC143, [.ref a0], [.int 3, .int 2, .ref (mP μ59 a0 0)], μ59)) rfl ?_
  obtain ⟨h60, hr⟩ := mIf hr
  replace hr := mBs hr
  refine gIast (is := List.drop 89 mC143) h60 ?_
  let μ61 : mM := mUI μ59 (mP μ59 a0 0) (Int32.toNatClampNeg 2) 3
  refine mGo.steps 1 (c' := (143, List.drop 90 mC143, [.ref a0], [.ref a0], μ61)) rfl ?_
  refine gGet (is := List.drop 91 mC143) (v := .ref (mP μ61 a0 0)) h54 rfl ?_
  refine mGo.steps 2 (c' := (143, List.drop 93 mC143, [.ref a0], [.int 3, .int 431, .ref (mP μ61 a0 0)], μ61)) rfl ?_
  obtain ⟨h62, hr⟩ := mIf hr
  replace hr := mBs hr
  refine gIast (is := List.drop 94 mC143) h62 ?_
  let μ63 : mM := mUI μ61 (mP μ61 a0 0) (Int32.toNatClampNeg 431) 3
  obtain rfl := Option.some.inj hr
  rw [show r = _ from hC]
  exact gVret rfl

/-! 144: TunnelFabricModel.in(III)Z -/
def s144_9 (μ : mM) (a0 : Int32) (a1 : Int32) (a2 : Int32) (t0 : Int32) : Option Int32 :=
  if t0 = 0 ∨ t0 = 1 then some t0 else none
set_option maxRecDepth 20000 in
theorem t144_9 (μ : mM) (a0 : Int32) (a1 : Int32) (a2 : Int32) (t0 : Int32) (w0 : Value) (hw0 : mNotL w0 = true) (w1 : Value) (hw1 : mNotL w1 = true) (w2 : Value) (hw2 : mNotL w2 = true) {o : Int32} {r : Option Value × mM} (hr : s144_9 μ a0 a1 a2 t0 = some o) (hC : r = (some (.int o), μ)) : mGo mG (144, List.drop 9 mC144, [w0, w1, w2], [.int t0], μ) r := by
  unfold s144_9 at hr
  obtain ⟨h1, hr⟩ := mIf hr
  obtain rfl := Option.some.inj hr
  rw [show r = _ from hC]
  exact gZret rfl h1
def s144_8 (μ : mM) (a0 : Int32) (a1 : Int32) (a2 : Int32) : Option Int32 :=
  s144_9 μ a0 a1 a2 0
set_option maxRecDepth 20000 in
theorem t144_8 (μ : mM) (a0 : Int32) (a1 : Int32) (a2 : Int32) (w0 : Value) (hw0 : mNotL w0 = true) (w1 : Value) (hw1 : mNotL w1 = true) (w2 : Value) (hw2 : mNotL w2 = true) {o : Int32} {r : Option Value × mM} (hr : s144_8 μ a0 a1 a2 = some o) (hC : r = (some (.int o), μ)) : mGo mG (144, List.drop 8 mC144, [w0, w1, w2], [], μ) r := by
  unfold s144_8 at hr
  refine mGo.steps 1 (c' := (144, List.drop 9 mC144, [w0, w1, w2], [.int 0], μ)) rfl ?_
  exact t144_9 μ a0 a1 a2 0 w0 hw0 w1 hw1 w2 hw2 hr hC
def s144 (μ : mM) (a0 : Int32) (a1 : Int32) (a2 : Int32) : Option Int32 :=
  if a0 < a1 then (s144_8 μ a0 a1 a2) else (if a2 < a0 then (s144_8 μ a0 a1 a2) else (s144_9 μ a0 a1 a2 1))
set_option maxRecDepth 20000 in
theorem t144 {μ : mM} {a0 : Int32} {a1 : Int32} {a2 : Int32} {o : Int32} (hr : s144 μ a0 a1 a2 = some o) : mEv mG 144 [.int a0, .int a1, .int a2] μ (some (.int o)) (μ) := by
  obtain ⟨r, hC⟩ : ∃ r : Option Value × mM, r = (some (.int o), μ) := ⟨_, rfl⟩
  show mGo mG (144, List.drop 0 mC144, [.int a0, .int a1, .int a2], [], μ) (some (.int o), μ)
  rw [← hC]
  unfold s144 at hr
  refine mGo.steps 2 (c' := (144, List.drop 2 mC144, [.int a0, .int a1, .int a2], [.int a1, .int a0], μ)) rfl ?_
  rcases mIte hr with ⟨h3, hr⟩ | ⟨h3, hr⟩
  · refine gBrT (p := a0 < a1) (y := 144) (is := List.drop 3 mC144) (L := [.int a0, .int a1, .int a2]) (st := []) (μ := μ) (t := 14) rfl h3 ?_
    exact t144_8 μ a0 a1 a2 (.int a0) rfl (.int a1) rfl (.int a2) rfl hr hC
  · refine gBrF (p := a0 < a1) (y := 144) (is := List.drop 3 mC144) (L := [.int a0, .int a1, .int a2]) (st := []) (μ := μ) (t := 14) rfl h3 ?_
    refine mGo.steps 2 (c' := (144, List.drop 5 mC144, [.int a0, .int a1, .int a2], [.int a2, .int a0], μ)) rfl ?_
    rcases mIte hr with ⟨h2, hr⟩ | ⟨h2, hr⟩
    · refine gBrT (p := a2 < a0) (y := 144) (is := List.drop 6 mC144) (L := [.int a0, .int a1, .int a2]) (st := []) (μ := μ) (t := 14) rfl h2 ?_
      exact t144_8 μ a0 a1 a2 (.int a0) rfl (.int a1) rfl (.int a2) rfl hr hC
    · refine gBrF (p := a2 < a0) (y := 144) (is := List.drop 6 mC144) (L := [.int a0, .int a1, .int a2]) (st := []) (μ := μ) (t := 14) rfl h2 ?_
      refine mGo.steps 2 (c' := (144, List.drop 9 mC144, [.int a0, .int a1, .int a2], [.int 1], μ)) rfl ?_
      exact t144_9 μ a0 a1 a2 1 (.int a0) rfl (.int a1) rfl (.int a2) rfl hr hC

/-! 145: TunnelFabricModel.less(II)I -/
def s145_6 (μ : mM) (a0 : Int32) (a1 : Int32) (t0 : Int32) : Option Int32 :=
  some t0
set_option maxRecDepth 20000 in
theorem t145_6 (μ : mM) (a0 : Int32) (a1 : Int32) (t0 : Int32) (w0 : Value) (hw0 : mNotL w0 = true) (w1 : Value) (hw1 : mNotL w1 = true) {o : Int32} {r : Option Value × mM} (hr : s145_6 μ a0 a1 t0 = some o) (hC : r = (some (.int o), μ)) : mGo mG (145, List.drop 6 mC145, [w0, w1], [.int t0], μ) r := by
  unfold s145_6 at hr
  obtain rfl := Option.some.inj hr
  rw [show r = _ from hC]
  exact gIret rfl
def s145 (μ : mM) (a0 : Int32) (a1 : Int32) : Option Int32 :=
  if a1 ≤ a0 then (s145_6 μ a0 a1 a1) else (s145_6 μ a0 a1 a0)
set_option maxRecDepth 20000 in
theorem t145 {μ : mM} {a0 : Int32} {a1 : Int32} {o : Int32} (hr : s145 μ a0 a1 = some o) : mEv mG 145 [.int a0, .int a1] μ (some (.int o)) (μ) := by
  obtain ⟨r, hC⟩ : ∃ r : Option Value × mM, r = (some (.int o), μ) := ⟨_, rfl⟩
  show mGo mG (145, List.drop 0 mC145, [.int a0, .int a1], [], μ) (some (.int o), μ)
  rw [← hC]
  unfold s145 at hr
  refine mGo.steps 2 (c' := (145, List.drop 2 mC145, [.int a0, .int a1], [.int a1, .int a0], μ)) rfl ?_
  rcases mIte hr with ⟨h1, hr⟩ | ⟨h1, hr⟩
  · refine gBrT (p := a1 ≤ a0) (y := 145) (is := List.drop 3 mC145) (L := [.int a0, .int a1]) (st := []) (μ := μ) (t := 9) rfl h1 ?_
    refine mGo.steps 1 (c' := (145, List.drop 6 mC145, [.int a0, .int a1], [.int a1], μ)) rfl ?_
    exact t145_6 μ a0 a1 a1 (.int a0) rfl (.int a1) rfl hr hC
  · refine gBrF (p := a1 ≤ a0) (y := 145) (is := List.drop 3 mC145) (L := [.int a0, .int a1]) (st := []) (μ := μ) (t := 9) rfl h1 ?_
    refine mGo.steps 2 (c' := (145, List.drop 6 mC145, [.int a0, .int a1], [.int a0], μ)) rfl ?_
    exact t145_6 μ a0 a1 a0 (.int a0) rfl (.int a1) rfl hr hC

/-! 146: TunnelFabricModel.portsOf(I)I -/
def s146_18 (μ : mM) (a0 : Int32) (t0 : Int32) : Option Int32 :=
  some t0
set_option maxRecDepth 20000 in
theorem t146_18 (μ : mM) (a0 : Int32) (t0 : Int32) (w0 : Value) (hw0 : mNotL w0 = true) {o : Int32} {r : Option Value × mM} (hr : s146_18 μ a0 t0 = some o) (hC : r = (some (.int o), μ)) : mGo mG (146, List.drop 18 mC146, [w0], [.int t0], μ) r := by
  unfold s146_18 at hr
  obtain rfl := Option.some.inj hr
  rw [show r = _ from hC]
  exact gIret rfl
def s146_10 (μ : mM) (a0 : Int32) : Option Int32 :=
  s146_18 μ a0 1
set_option maxRecDepth 20000 in
theorem t146_10 (μ : mM) (a0 : Int32) (w0 : Value) (hw0 : mNotL w0 = true) {o : Int32} {r : Option Value × mM} (hr : s146_10 μ a0 = some o) (hC : r = (some (.int o), μ)) : mGo mG (146, List.drop 10 mC146, [w0], [], μ) r := by
  unfold s146_10 at hr
  refine mGo.steps 2 (c' := (146, List.drop 18 mC146, [w0], [.int 1], μ)) rfl ?_
  exact t146_18 μ a0 1 w0 hw0 hr hC
def s146 (μ : mM) (a0 : Int32) : Option Int32 :=
  if ¬ a0 = 0 then (if a0 = 1 then (s146_10 μ a0) else (if ¬ a0 = 2 then (if ¬ a0 = 3 then (s146_18 μ a0 2) else (s146_18 μ a0 0)) else (s146_10 μ a0))) else (s146_18 μ a0 3)
set_option maxRecDepth 20000 in
theorem t146 {μ : mM} {a0 : Int32} {o : Int32} (hr : s146 μ a0 = some o) : mEv mG 146 [.int a0] μ (some (.int o)) (μ) := by
  obtain ⟨r, hC⟩ : ∃ r : Option Value × mM, r = (some (.int o), μ) := ⟨_, rfl⟩
  show mGo mG (146, List.drop 0 mC146, [.int a0], [], μ) (some (.int o), μ)
  rw [← hC]
  unfold s146 at hr
  refine mGo.steps 1 (c' := (146, List.drop 1 mC146, [.int a0], [.int a0], μ)) rfl ?_
  rcases mIte hr with ⟨h4, hr⟩ | ⟨h4, hr⟩
  · refine gBrT (p := ¬ a0 = 0) (y := 146) (is := List.drop 2 mC146) (L := [.int a0]) (st := []) (μ := μ) (t := 8) rfl h4 ?_
    refine mGo.steps 2 (c' := (146, List.drop 6 mC146, [.int a0], [.int 1, .int a0], μ)) rfl ?_
    rcases mIte hr with ⟨h3, hr⟩ | ⟨h3, hr⟩
    · refine gBrT (p := a0 = 1) (y := 146) (is := List.drop 7 mC146) (L := [.int a0]) (st := []) (μ := μ) (t := 18) rfl h3 ?_
      exact t146_10 μ a0 (.int a0) rfl hr hC
    · refine gBrF (p := a0 = 1) (y := 146) (is := List.drop 7 mC146) (L := [.int a0]) (st := []) (μ := μ) (t := 18) rfl h3 ?_
      refine mGo.steps 2 (c' := (146, List.drop 9 mC146, [.int a0], [.int 2, .int a0], μ)) rfl ?_
      rcases mIte hr with ⟨h2, hr⟩ | ⟨h2, hr⟩
      · refine gBrT (p := ¬ a0 = 2) (y := 146) (is := List.drop 10 mC146) (L := [.int a0]) (st := []) (μ := μ) (t := 22) rfl h2 ?_
        refine mGo.steps 2 (c' := (146, List.drop 14 mC146, [.int a0], [.int 3, .int a0], μ)) rfl ?_
        rcases mIte hr with ⟨h1, hr⟩ | ⟨h1, hr⟩
        · refine gBrT (p := ¬ a0 = 3) (y := 146) (is := List.drop 15 mC146) (L := [.int a0]) (st := []) (μ := μ) (t := 31) rfl h1 ?_
          refine mGo.steps 1 (c' := (146, List.drop 18 mC146, [.int a0], [.int 2], μ)) rfl ?_
          exact t146_18 μ a0 2 (.int a0) rfl hr hC
        · refine gBrF (p := ¬ a0 = 3) (y := 146) (is := List.drop 15 mC146) (L := [.int a0]) (st := []) (μ := μ) (t := 31) rfl h1 ?_
          refine mGo.steps 2 (c' := (146, List.drop 18 mC146, [.int a0], [.int 0], μ)) rfl ?_
          exact t146_18 μ a0 0 (.int a0) rfl hr hC
      · refine gBrF (p := ¬ a0 = 2) (y := 146) (is := List.drop 10 mC146) (L := [.int a0]) (st := []) (μ := μ) (t := 22) rfl h2 ?_
        exact t146_10 μ a0 (.int a0) rfl hr hC
  · refine gBrF (p := ¬ a0 = 0) (y := 146) (is := List.drop 2 mC146) (L := [.int a0]) (st := []) (μ := μ) (t := 8) rfl h4 ?_
    refine mGo.steps 2 (c' := (146, List.drop 18 mC146, [.int a0], [.int 3], μ)) rfl ?_
    exact t146_18 μ a0 3 (.int a0) rfl hr hC

/-! 147: TunnelFabricModel.buffersOf(I)I -/
def s147_15 (μ : mM) (a0 : Int32) (t0 : Int32) : Option Int32 :=
  some t0
set_option maxRecDepth 20000 in
theorem t147_15 (μ : mM) (a0 : Int32) (t0 : Int32) (w0 : Value) (hw0 : mNotL w0 = true) {o : Int32} {r : Option Value × mM} (hr : s147_15 μ a0 t0 = some o) (hC : r = (some (.int o), μ)) : mGo mG (147, List.drop 15 mC147, [w0], [.int t0], μ) r := by
  unfold s147_15 at hr
  obtain rfl := Option.some.inj hr
  rw [show r = _ from hC]
  exact gIret rfl
def s147 (μ : mM) (a0 : Int32) : Option Int32 :=
  if ¬ a0 = 0 then (if ¬ a0 = 1 then (if ¬ a0 = 4 then (s147_15 μ a0 16) else (s147_15 μ a0 40)) else (s147_15 μ a0 12)) else (s147_15 μ a0 24)
set_option maxRecDepth 20000 in
theorem t147 {μ : mM} {a0 : Int32} {o : Int32} (hr : s147 μ a0 = some o) : mEv mG 147 [.int a0] μ (some (.int o)) (μ) := by
  obtain ⟨r, hC⟩ : ∃ r : Option Value × mM, r = (some (.int o), μ) := ⟨_, rfl⟩
  show mGo mG (147, List.drop 0 mC147, [.int a0], [], μ) (some (.int o), μ)
  rw [← hC]
  unfold s147 at hr
  refine mGo.steps 1 (c' := (147, List.drop 1 mC147, [.int a0], [.int a0], μ)) rfl ?_
  rcases mIte hr with ⟨h3, hr⟩ | ⟨h3, hr⟩
  · refine gBrT (p := ¬ a0 = 0) (y := 147) (is := List.drop 2 mC147) (L := [.int a0]) (st := []) (μ := μ) (t := 9) rfl h3 ?_
    refine mGo.steps 2 (c' := (147, List.drop 6 mC147, [.int a0], [.int 1, .int a0], μ)) rfl ?_
    rcases mIte hr with ⟨h2, hr⟩ | ⟨h2, hr⟩
    · refine gBrT (p := ¬ a0 = 1) (y := 147) (is := List.drop 7 mC147) (L := [.int a0]) (st := []) (μ := μ) (t := 19) rfl h2 ?_
      refine mGo.steps 2 (c' := (147, List.drop 11 mC147, [.int a0], [.int 4, .int a0], μ)) rfl ?_
      rcases mIte hr with ⟨h1, hr⟩ | ⟨h1, hr⟩
      · refine gBrT (p := ¬ a0 = 4) (y := 147) (is := List.drop 12 mC147) (L := [.int a0]) (st := []) (μ := μ) (t := 29) rfl h1 ?_
        refine mGo.steps 1 (c' := (147, List.drop 15 mC147, [.int a0], [.int 16], μ)) rfl ?_
        exact t147_15 μ a0 16 (.int a0) rfl hr hC
      · refine gBrF (p := ¬ a0 = 4) (y := 147) (is := List.drop 12 mC147) (L := [.int a0]) (st := []) (μ := μ) (t := 29) rfl h1 ?_
        refine mGo.steps 2 (c' := (147, List.drop 15 mC147, [.int a0], [.int 40], μ)) rfl ?_
        exact t147_15 μ a0 40 (.int a0) rfl hr hC
    · refine gBrF (p := ¬ a0 = 1) (y := 147) (is := List.drop 7 mC147) (L := [.int a0]) (st := []) (μ := μ) (t := 19) rfl h2 ?_
      refine mGo.steps 2 (c' := (147, List.drop 15 mC147, [.int a0], [.int 12], μ)) rfl ?_
      exact t147_15 μ a0 12 (.int a0) rfl hr hC
  · refine gBrF (p := ¬ a0 = 0) (y := 147) (is := List.drop 2 mC147) (L := [.int a0]) (st := []) (μ := μ) (t := 9) rfl h3 ?_
    refine mGo.steps 2 (c' := (147, List.drop 15 mC147, [.int a0], [.int 24], μ)) rfl ?_
    exact t147_15 μ a0 24 (.int a0) rfl hr hC

/-! 148: TunnelFabricModel.of(II)I -/
def s148 (μ : mM) (a0 : Nat) (a1 : Int32) (a2 : Int32) : Option Int32 :=
  if (mS μ a0).1 = 9 then if (mS μ (mP μ a0 0)).1 = 10 ∧ mInb ((9 * a1) + a2) (mS μ (mP μ a0 0)).2 then some (mI μ (mP μ a0 0) (Int32.toNatClampNeg ((9 * a1) + a2))) else none else none
set_option maxRecDepth 20000 in
theorem t148 {μ : mM} {a0 : Nat} {a1 : Int32} {a2 : Int32} {o : Int32} (hr : s148 μ a0 a1 a2 = some o) : mEv mG 148 [.ref a0, .int a1, .int a2] μ (some (.int o)) (μ) := by
  obtain ⟨r, hC⟩ : ∃ r : Option Value × mM, r = (some (.int o), μ) := ⟨_, rfl⟩
  show mGo mG (148, List.drop 0 mC148, [.ref a0, .int a1, .int a2], [], μ) (some (.int o), μ)
  rw [← hC]
  unfold s148 at hr
  refine mGo.steps 1 (c' := (148, List.drop 1 mC148, [.ref a0, .int a1, .int a2], [.ref a0], μ)) rfl ?_
  obtain ⟨h1, hr⟩ := mIf hr
  refine gGet (is := List.drop 2 mC148) (v := .ref (mP μ a0 0)) h1 rfl ?_
  refine mGo.steps 5 (c' := (148, List.drop 7 mC148, [.ref a0, .int a1, .int a2], [.int ((9 * a1) + a2), .ref (mP μ a0 0)], μ)) rfl ?_
  obtain ⟨h2, hr⟩ := mIf hr
  refine gIald (is := List.drop 8 mC148) h2 ?_
  obtain rfl := Option.some.inj hr
  rw [show r = _ from hC]
  exact gIret rfl

/-! 149: TunnelFabricModel.lays(III)V -/
def s149 (μ : mM) (a0 : Nat) (a1 : Int32) (a2 : Int32) (a3 : Int32) : Option mM :=
  if (mS μ a0).1 = 9 then if (mS μ (mP μ a0 0)).1 = 10 ∧ mInb ((9 * a1) + a2) (mS μ (mP μ a0 0)).2 then (some (mUI μ (mP μ a0 0) (Int32.toNatClampNeg ((9 * a1) + a2)) a3)).bind fun μ3 => some μ3 else none else none
set_option maxRecDepth 20000 in
theorem t149 {μ : mM} {a0 : Nat} {a1 : Int32} {a2 : Int32} {a3 : Int32} {o : mM} (hr : s149 μ a0 a1 a2 a3 = some o) : mEv mG 149 [.ref a0, .int a1, .int a2, .int a3] μ (none) (o) := by
  obtain ⟨r, hC⟩ : ∃ r : Option Value × mM, r = (none, o) := ⟨_, rfl⟩
  show mGo mG (149, List.drop 0 mC149, [.ref a0, .int a1, .int a2, .int a3], [], μ) (none, o)
  rw [← hC]
  unfold s149 at hr
  refine mGo.steps 1 (c' := (149, List.drop 1 mC149, [.ref a0, .int a1, .int a2, .int a3], [.ref a0], μ)) rfl ?_
  obtain ⟨h1, hr⟩ := mIf hr
  refine gGet (is := List.drop 2 mC149) (v := .ref (mP μ a0 0)) h1 rfl ?_
  refine mGo.steps 6 (c' := (149, List.drop 8 mC149, [.ref a0, .int a1, .int a2, .int a3], [.int a3, .int ((9 * a1) + a2), .ref (mP μ a0 0)], μ)) rfl ?_
  obtain ⟨h2, hr⟩ := mIf hr
  replace hr := mBs hr
  refine gIast (is := List.drop 9 mC149) h2 ?_
  let μ3 : mM := mUI μ (mP μ a0 0) (Int32.toNatClampNeg ((9 * a1) + a2)) a3
  obtain rfl := Option.some.inj hr
  rw [show r = _ from hC]
  exact gVret rfl
