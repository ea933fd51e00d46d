/-! 39: TunnelFabric$Fabric.refusalOf(II)I -/
def s39_20 (μ : mM) (a0 : Nat) (a1 : Int32) (a2 : Int32) : Option Int32 :=
  some (-5)
set_option maxRecDepth 20000 in
theorem t39_20 (μ : mM) (a0 : Nat) (a1 : Int32) (a2 : Int32) (w0 : Value) (hw0 : mNotL w0 = true) (w1 : Value) (hw1 : mNotL w1 = true) (w2 : Value) (hw2 : mNotL w2 = true) {o : Int32} {r : Option Value × mM} (hr : s39_20 μ a0 a1 a2 = some o) (hC : r = (some (.int o), μ)) : mGo mG (39, List.drop 20 mC39, [w0, w1, w2], [], μ) r := by
  unfold s39_20 at hr
  refine mGo.steps 1 (c' := (39, List.drop 21 mC39, [w0, w1, w2], [.int (-5)], μ)) rfl ?_
  obtain rfl := Option.some.inj hr
  rw [show r = _ from hC]
  exact gIret rfl
def s39_38 (μ : mM) (a0 : Nat) (a1 : Int32) (a2 : Int32) (t0 : Int32) : Option Int32 :=
  some t0
set_option maxRecDepth 20000 in
theorem t39_38 (μ : mM) (a0 : Nat) (a1 : Int32) (a2 : Int32) (t0 : Int32) (w0 : Value) (hw0 : mNotL w0 = true) (w1 : Value) (hw1 : mNotL w1 = true) (w2 : Value) (hw2 : mNotL w2 = true) {o : Int32} {r : Option Value × mM} (hr : s39_38 μ a0 a1 a2 t0 = some o) (hC : r = (some (.int o), μ)) : mGo mG (39, List.drop 38 mC39, [w0, w1, w2], [.int t0], μ) r := by
  unfold s39_38 at hr
  obtain rfl := Option.some.inj hr
  rw [show r = _ from hC]
  exact gIret rfl
def s39_37 (μ : mM) (a0 : Nat) (a1 : Int32) (a2 : Int32) : Option Int32 :=
  s39_38 μ a0 a1 a2 0
set_option maxRecDepth 20000 in
theorem t39_37 (μ : mM) (a0 : Nat) (a1 : Int32) (a2 : Int32) (w0 : Value) (hw0 : mNotL w0 = true) (w1 : Value) (hw1 : mNotL w1 = true) (w2 : Value) (hw2 : mNotL w2 = true) {o : Int32} {r : Option Value × mM} (hr : s39_37 μ a0 a1 a2 = some o) (hC : r = (some (.int o), μ)) : mGo mG (39, List.drop 37 mC39, [w0, w1, w2], [], μ) r := by
  unfold s39_37 at hr
  refine mGo.steps 1 (c' := (39, List.drop 38 mC39, [w0, w1, w2], [.int 0], μ)) rfl ?_
  exact t39_38 μ a0 a1 a2 0 w0 hw0 w1 hw1 w2 hw2 hr hC
def s39 (μ : mM) (a0 : Nat) (a1 : Int32) (a2 : Int32) : Option Int32 :=
  if (mS μ a0).1 = 1 then (s18 μ a0 a2).bind fun q2 => if (mS μ q2).1 = 4 then (s138 μ a1).bind fun q5 => if (mI μ q2 1) = q5 then ((s40 μ a0 a1).bind fun q7 => (s139 μ a1).bind fun q9 => if q9 ≤ q7 then (s39_20 μ a0 a1 a2) else ((s41 μ a0 a1 a2).bind fun q11 => if ¬ q11 = 0 then ((s42 μ a0 a1 a2).bind fun q13 => if ¬ q13 = 0 then (if ¬ a1 = 0 then (s39_37 μ a0 a1 a2) else ((s31 μ a0 a2).bind fun q15 => if 0 < q15 then (s39_37 μ a0 a1 a2) else (s39_38 μ a0 a1 a2 (-7)))) else (some (-6))) else (s39_20 μ a0 a1 a2))) else (some (-2)) else none else none
set_option maxRecDepth 20000 in
theorem t39 {μ : mM} {a0 : Nat} {a1 : Int32} {a2 : Int32} {o : Int32} (hr : s39 μ a0 a1 a2 = some o) : mEv mG 39 [.ref a0, .int a1, .int a2] μ (some (.int o)) (μ) := by
  obtain ⟨r, hC⟩ : ∃ r : Option Value × mM, r = (some (.int o), μ) := ⟨_, rfl⟩
  show mGo mG (39, List.drop 0 mC39, [.ref a0, .int a1, .int a2], [], μ) (some (.int o), μ)
  rw [← hC]
  unfold s39 at hr
  refine mGo.steps 2 (c' := (39, List.drop 2 mC39, [.ref a0, .int a1, .int a2], [.int a2, .ref a0], μ)) rfl ?_
  obtain ⟨h1, hr⟩ := mIf hr
  obtain ⟨q2, h3, hr⟩ := mBi hr
  refine gCall (z := 18) (n := 1) (f := 0) (kind := 1) (a := a0) (As := [.int a2]) (y := 39) (is := List.drop 3 mC39) (L := [.ref a0, .int a1, .int a2]) (rest := []) (μ := μ) rfl (by decide) (by decide) ⟨rfl, rfl⟩ rfl h1 (Nat.le_of_ble_eq_true rfl) (Nat.le_of_ble_eq_true rfl) (t18 h3) ?_
  obtain ⟨h4, hr⟩ := mIf hr
  refine gGet (is := List.drop 4 mC39) (v := .int (mI μ q2 1)) h4 rfl ?_
  refine mGo.steps 1 (c' := (39, List.drop 5 mC39, [.ref a0, .int a1, .int a2], [.int a1, .int (mI μ q2 1)], μ)) rfl ?_
  obtain ⟨q5, h6, hr⟩ := mBi hr
  refine mGo.call (z := 138) (as := [.int a1]) (y := 39) (is := List.drop 6 mC39) (L := [.ref a0, .int a1, .int a2]) (st := [.int (mI μ q2 1)]) (μ := μ) rfl (t138 h6) ?_
  rcases mIte hr with ⟨h22, hr⟩ | ⟨h22, hr⟩
  · refine gBrT (p := (mI μ q2 1) = q5) (y := 39) (is := List.drop 7 mC39) (L := [.ref a0, .int a1, .int a2]) (st := []) (μ := μ) (t := 18) rfl h22 ?_
    refine mGo.steps 2 (c' := (39, List.drop 11 mC39, [.ref a0, .int a1, .int a2], [.int a1, .ref a0], μ)) rfl ?_
    obtain ⟨q7, h8, hr⟩ := mBi hr
    refine gCall (z := 40) (n := 1) (f := 0) (kind := 1) (a := a0) (As := [.int a1]) (y := 39) (is := List.drop 12 mC39) (L := [.ref a0, .int a1, .int a2]) (rest := []) (μ := μ) rfl (by decide) (by decide) ⟨rfl, rfl⟩ rfl h1 (Nat.le_of_ble_eq_true rfl) (Nat.le_of_ble_eq_true rfl) (t40 h8) ?_
    refine mGo.steps 1 (c' := (39, List.drop 13 mC39, [.ref a0, .int a1, .int a2], [.int a1, .int q7], μ)) rfl ?_
    obtain ⟨q9, h10, hr⟩ := mBi hr
    refine mGo.call (z := 139) (as := [.int a1]) (y := 39) (is := List.drop 14 mC39) (L := [.ref a0, .int a1, .int a2]) (st := [.int q7]) (μ := μ) rfl (t139 h10) ?_
    rcases mIte hr with ⟨h21, hr⟩ | ⟨h21, hr⟩
    · refine gBrT (p := q9 ≤ q7) (y := 39) (is := List.drop 15 mC39) (L := [.ref a0, .int a1, .int a2]) (st := []) (μ := μ) (t := 39) rfl h21 ?_
      exact t39_20 μ a0 a1 a2 (.ref a0) rfl (.int a1) rfl (.int a2) rfl hr hC
    · refine gBrF (p := q9 ≤ q7) (y := 39) (is := List.drop 15 mC39) (L := [.ref a0, .int a1, .int a2]) (st := []) (μ := μ) (t := 39) rfl h21 ?_
      refine mGo.steps 3 (c' := (39, List.drop 18 mC39, [.ref a0, .int a1, .int a2], [.int a2, .int a1, .ref a0], μ)) rfl ?_
      obtain ⟨q11, h12, hr⟩ := mBi hr
      refine gCall (z := 41) (n := 2) (f := 0) (kind := 1) (a := a0) (As := [.int a1, .int a2]) (y := 39) (is := List.drop 19 mC39) (L := [.ref a0, .int a1, .int a2]) (rest := []) (μ := μ) rfl (by decide) (by decide) ⟨rfl, rfl⟩ rfl h1 (Nat.le_of_ble_eq_true rfl) (Nat.le_of_ble_eq_true rfl) (t41 h12) ?_
      rcases mIte hr with ⟨h20, hr⟩ | ⟨h20, hr⟩
      · refine gBrT (p := ¬ q11 = 0) (y := 39) (is := List.drop 20 mC39) (L := [.ref a0, .int a1, .int a2]) (st := []) (μ := μ) (t := 42) rfl h20 ?_
        refine mGo.steps 3 (c' := (39, List.drop 25 mC39, [.ref a0, .int a1, .int a2], [.int a2, .int a1, .ref a0], μ)) rfl ?_
        obtain ⟨q13, h14, hr⟩ := mBi hr
        refine gCall (z := 42) (n := 2) (f := 0) (kind := 1) (a := a0) (As := [.int a1, .int a2]) (y := 39) (is := List.drop 26 mC39) (L := [.ref a0, .int a1, .int a2]) (rest := []) (μ := μ) rfl (by decide) (by decide) ⟨rfl, rfl⟩ rfl h1 (Nat.le_of_ble_eq_true rfl) (Nat.le_of_ble_eq_true rfl) (t42 h14) ?_
        rcases mIte hr with ⟨h19, hr⟩ | ⟨h19, hr⟩
        · refine gBrT (p := ¬ q13 = 0) (y := 39) (is := List.drop 27 mC39) (L := [.ref a0, .int a1, .int a2]) (st := []) (μ := μ) (t := 54) rfl h19 ?_
          refine mGo.steps 1 (c' := (39, List.drop 30 mC39, [.ref a0, .int a1, .int a2], [.int a1], μ)) rfl ?_
          rcases mIte hr with ⟨h18, hr⟩ | ⟨h18, hr⟩
          · refine gBrT (p := ¬ a1 = 0) (y := 39) (is := List.drop 31 mC39) (L := [.ref a0, .int a1, .int a2]) (st := []) (μ := μ) (t := 71) rfl h18 ?_
            exact t39_37 μ a0 a1 a2 (.ref a0) rfl (.int a1) rfl (.int a2) rfl hr hC
          · refine gBrF (p := ¬ a1 = 0) (y := 39) (is := List.drop 31 mC39) (L := [.ref a0, .int a1, .int a2]) (st := []) (μ := μ) (t := 71) rfl h18 ?_
            refine mGo.steps 2 (c' := (39, List.drop 33 mC39, [.ref a0, .int a1, .int a2], [.int a2, .ref a0], μ)) rfl ?_
            obtain ⟨q15, h16, hr⟩ := mBi hr
            refine gCall (z := 31) (n := 1) (f := 0) (kind := 1) (a := a0) (As := [.int a2]) (y := 39) (is := List.drop 34 mC39) (L := [.ref a0, .int a1, .int a2]) (rest := []) (μ := μ) rfl (by decide) (by decide) ⟨rfl, rfl⟩ rfl h1 (Nat.le_of_ble_eq_true rfl) (Nat.le_of_ble_eq_true rfl) (t31 h16) ?_
            rcases mIte hr with ⟨h17, hr⟩ | ⟨h17, hr⟩
            · refine gBrT (p := 0 < q15) (y := 39) (is := List.drop 35 mC39) (L := [.ref a0, .int a1, .int a2]) (st := []) (μ := μ) (t := 71) rfl h17 ?_
              exact t39_37 μ a0 a1 a2 (.ref a0) rfl (.int a1) rfl (.int a2) rfl hr hC
            · refine gBrF (p := 0 < q15) (y := 39) (is := List.drop 35 mC39) (L := [.ref a0, .int a1, .int a2]) (st := []) (μ := μ) (t := 71) rfl h17 ?_
              refine mGo.steps 2 (c' := (39, List.drop 38 mC39, [.ref a0, .int a1, .int a2], [.int (-7)], μ)) rfl ?_
              exact t39_38 μ a0 a1 a2 (-7) (.ref a0) rfl (.int a1) rfl (.int a2) rfl hr hC
        · refine gBrF (p := ¬ q13 = 0) (y := 39) (is := List.drop 27 mC39) (L := [.ref a0, .int a1, .int a2]) (st := []) (μ := μ) (t := 54) rfl h19 ?_
          refine mGo.steps 1 (c' := (39, List.drop 28 mC39, [.ref a0, .int a1, .int a2], [.int (-6)], μ)) rfl ?_
          obtain rfl := Option.some.inj hr
          rw [show r = _ from hC]
          exact gIret rfl
      · refine gBrF (p := ¬ q11 = 0) (y := 39) (is := List.drop 20 mC39) (L := [.ref a0, .int a1, .int a2]) (st := []) (μ := μ) (t := 42) rfl h20 ?_
        exact t39_20 μ a0 a1 a2 (.ref a0) rfl (.int a1) rfl (.int a2) rfl hr hC
  · refine gBrF (p := (mI μ q2 1) = q5) (y := 39) (is := List.drop 7 mC39) (L := [.ref a0, .int a1, .int a2]) (st := []) (μ := μ) (t := 18) rfl h22 ?_
    refine mGo.steps 1 (c' := (39, List.drop 8 mC39, [.ref a0, .int a1, .int a2], [.int (-2)], μ)) rfl ?_
    obtain rfl := Option.some.inj hr
    rw [show r = _ from hC]
    exact gIret rfl

/-! 44: TunnelFabric$Fabric.leastClosed()I -/
def s44L2 (μ : mM) (p0 : Nat) (s : Int32) : Option ((Int32) ⊕ ((Unit) ⊕ Int32)) :=
  if 10 ≤ s then (some (.inr (.inl ()))) else (if (mS μ p0).1 = 1 then if (mS μ (mP μ p0 1)).1 = 20 + 6 ∧ mInb s (mS μ (mP μ p0 1)).2 then if (mS μ (mP μ (mP μ p0 1) (Int32.toNatClampNeg s))).1 = 6 then if ¬ (mI μ (mP μ (mP μ p0 1) (Int32.toNatClampNeg s)) 0) = 0 then (some (.inl (s + 1))) else (some (.inr (.inr s))) else none else none else none)
set_option maxRecDepth 20000 in
theorem t44L2 (μ : mM) (p0 : Nat) {r : Option Value × mM} (s : Int32) (o : ((Int32) ⊕ ((Unit) ⊕ Int32))) (hr : s44L2 μ p0 s = some o) (hC : Sum.elim (fun s' : Int32 => mGo mG (44, List.drop 2 mC44, [.ref p0, .int s'], [], μ) r) (Sum.elim (fun x : Unit => ∀ (w0 : Value) (hw0 : mNotL w0 = true) (w1 : Value) (hw1 : mNotL w1 = true), mGo mG (44, List.drop 15 mC44, [w0, w1], [], μ) r) (fun y : Int32 => r = (some (.int y), μ))) o) : mGo mG (44, List.drop 2 mC44, [.ref p0, .int s], [], μ) r := by
  unfold s44L2 at hr
  refine mGo.steps 2 (c' := (44, List.drop 4 mC44, [.ref p0, .int s], [.int 10, .int s], μ)) rfl ?_
  rcases mIte hr with ⟨h5, hr⟩ | ⟨h5, hr⟩
  · refine gBrT (p := 10 ≤ s) (y := 44) (is := List.drop 5 mC44) (L := [.ref p0, .int s]) (st := []) (μ := μ) (t := 28) rfl h5 ?_
    obtain rfl := Option.some.inj hr
    exact hC (.ref p0) rfl (.int s) rfl
  · refine gBrF (p := 10 ≤ s) (y := 44) (is := List.drop 5 mC44) (L := [.ref p0, .int s]) (st := []) (μ := μ) (t := 28) rfl h5 ?_
    refine mGo.steps 1 (c' := (44, List.drop 6 mC44, [.ref p0, .int s], [.ref p0], μ)) rfl ?_
    obtain ⟨h1, hr⟩ := mIf hr
    refine gGet (is := List.drop 7 mC44) (v := .ref (mP μ p0 1)) h1 rfl ?_
    refine mGo.steps 1 (c' := (44, List.drop 8 mC44, [.ref p0, .int s], [.int s, .ref (mP μ p0 1)], μ)) rfl ?_
    obtain ⟨h2, hr⟩ := mIf hr
    refine gAald (is := List.drop 9 mC44) h2 ?_
    obtain ⟨h3, hr⟩ := mIf hr
    refine gGet (is := List.drop 10 mC44) (v := .int (mI μ (mP μ (mP μ p0 1) (Int32.toNatClampNeg s)) 0)) h3 rfl ?_
    rcases mIte hr with ⟨h4, hr⟩ | ⟨h4, hr⟩
    · refine gBrT (p := ¬ (mI μ (mP μ (mP μ p0 1) (Int32.toNatClampNeg s)) 0) = 0) (y := 44) (is := List.drop 11 mC44) (L := [.ref p0, .int s]) (st := []) (μ := μ) (t := 22) rfl h4 ?_
      refine mGo.steps 2 (c' := (44, List.drop 2 mC44, [.ref p0, .int (s + 1)], [], μ)) rfl ?_
      obtain rfl := Option.some.inj hr
      exact hC
    · refine gBrF (p := ¬ (mI μ (mP μ (mP μ p0 1) (Int32.toNatClampNeg s)) 0) = 0) (y := 44) (is := List.drop 11 mC44) (L := [.ref p0, .int s]) (st := []) (μ := μ) (t := 22) rfl h4 ?_
      refine mGo.steps 1 (c' := (44, List.drop 12 mC44, [.ref p0, .int s], [.int s], μ)) rfl ?_
      obtain rfl := Option.some.inj hr
      rw [show r = _ from hC]
      exact gIret rfl
theorem t44L2l (μ : mM) (p0 : Nat) {r : Option Value × mM} (n : Nat) (s : Int32) (o : (Unit) ⊕ Int32) (hr : mLoop (s44L2 μ p0) n s = some o) (hC : Sum.elim (fun x : Unit => ∀ (w0 : Value) (hw0 : mNotL w0 = true) (w1 : Value) (hw1 : mNotL w1 = true), mGo mG (44, List.drop 15 mC44, [w0, w1], [], μ) r) (fun y : Int32 => r = (some (.int y), μ)) o) : mGo mG (44, List.drop 2 mC44, [.ref p0, .int s], [], μ) r :=
  mLoop_go (Hd := (fun s' : Int32 => mGo mG (44, List.drop 2 mC44, [.ref p0, .int s'], [], μ) r)) (fun s o hb hC => t44L2 μ p0 s o hb hC) n s o hr hC
def s44 (μ : mM) (a0 : Nat) : Option Int32 :=
  (mLoop (s44L2 μ a0) 1000 0).bind fun o6 => Sum.elim (fun x7 => some (-1)) (fun y8 => some y8) o6
set_option maxRecDepth 20000 in
theorem t44 {μ : mM} {a0 : Nat} {o : Int32} (hr : s44 μ a0 = some o) : mEv mG 44 [.ref a0] μ (some (.int o)) (μ) := by
  obtain ⟨r, hC⟩ : ∃ r : Option Value × mM, r = (some (.int o), μ) := ⟨_, rfl⟩
  show mGo mG (44, List.drop 0 mC44, [.ref a0, .retAddr 0], [], μ) (some (.int o), μ)
  rw [← hC]
  unfold s44 at hr
  refine mGo.steps 2 (c' := (44, List.drop 2 mC44, [.ref a0, .int 0], [], μ)) rfl ?_
  obtain ⟨o6, h9, hr⟩ := mBi hr
  refine t44L2l μ a0 1000 0 o6 h9 ?_ 
  cases o6 with
  | inl x7 =>
    show ∀ (w0 : Value) (hw0 : mNotL w0 = true) (w1 : Value) (hw1 : mNotL w1 = true), mGo mG (44, List.drop 15 mC44, [w0, w1], [], μ) r
    intro w0 hw0 w1 hw1
    replace hr : (_) = some _ := hr
    refine mGo.steps 1 (c' := (44, List.drop 16 mC44, [w0, w1], [.int (-1)], μ)) rfl ?_
    obtain rfl := Option.some.inj hr
    rw [show r = _ from hC]
    exact gIret rfl
  | inr y8 =>
    obtain rfl := Option.some.inj hr
    exact hC

/-! 88: TunnelFabric$Way.appendHop(III)V -/
def s88_7 (a0 : Nat) (a1 : Int32) (a2 : Int32) (a3 : Int32) (μ : mM) : Option mM :=
  some μ
set_option maxRecDepth 20000 in
theorem t88_7 (a0 : Nat) (a1 : Int32) (a2 : Int32) (a3 : Int32) (μ : mM) (w0 : Value) (hw0 : mNotL w0 = true) (w1 : Value) (hw1 : mNotL w1 = true) (w2 : Value) (hw2 : mNotL w2 = true) (w3 : Value) (hw3 : mNotL w3 = true) {o : mM} {r : Option Value × mM} (hr : s88_7 a0 a1 a2 a3 μ = some o) (hC : r = (none, o)) : mGo mG (88, List.drop 7 mC88, [w0, w1, w2, w3], [], μ) r := by
  unfold s88_7 at hr
  obtain rfl := Option.some.inj hr
  rw [show r = _ from hC]
  exact gVret rfl
def s88 (μ : mM) (a0 : Nat) (a1 : Int32) (a2 : Int32) (a3 : Int32) : Option mM :=
  if (mS μ a0).1 = 7 then if (mI μ a0 1) < 0 then (s88_7 a0 a1 a2 a3 μ) else (if (mI μ a0 1) < 4 then (if (mS μ (mP μ a0 4)).1 = 10 ∧ mInb (mI μ a0 1) (mS μ (mP μ a0 4)).2 then (some (mUI μ (mP μ a0 4) (Int32.toNatClampNeg (mI μ a0 1)) a1)).bind fun μ3 => if (mS μ3 (mP μ3 a0 5)).1 = 10 ∧ mInb (mI μ3 a0 1) (mS μ3 (mP μ3 a0 5)).2 then (some (mUI μ3 (mP μ3 a0 5) (Int32.toNatClampNeg (mI μ3 a0 1)) a2)).bind fun μ5 => if (mS μ5 (mP μ5 a0 6)).1 = 10 ∧ mInb (mI μ5 a0 1) (mS μ5 (mP μ5 a0 6)).2 then (some (mUI μ5 (mP μ5 a0 6) (Int32.toNatClampNeg (mI μ5 a0 1)) a3)).bind fun μ7 => if (mS μ7 (mP μ7 a0 7)).1 = 10 ∧ mInb (mI μ7 a0 1) (mS μ7 (mP μ7 a0 7)).2 then (some (mUI μ7 (mP μ7 a0 7) (Int32.toNatClampNeg (mI μ7 a0 1)) 0)).bind fun μ9 => if (mS μ9 (mP μ9 a0 8)).1 = 10 ∧ mInb (mI μ9 a0 1) (mS μ9 (mP μ9 a0 8)).2 then (some (mUI μ9 (mP μ9 a0 8) (Int32.toNatClampNeg (mI μ9 a0 1)) 0)).bind fun μ11 => (some (mUI μ11 a0 1 ((mI μ11 a0 1) + 1))).bind fun μ12 => some μ12 else none else none else none else none else none) else (s88_7 a0 a1 a2 a3 μ)) else none
set_option maxRecDepth 20000 in
theorem t88 {μ : mM} {a0 : Nat} {a1 : Int32} {a2 : Int32} {a3 : Int32} {o : mM} (hr : s88 μ a0 a1 a2 a3 = some o) : mEv mG 88 [.ref a0, .int a1, .int a2, .int a3] μ (none) (o) := by
  obtain ⟨r, hC⟩ : ∃ r : Option Value × mM, r = (none, o) := ⟨_, rfl⟩
  show mGo mG (88, List.drop 0 mC88, [.ref a0, .int a1, .int a2, .int a3], [], μ) (none, o)
  rw [← hC]
  unfold s88 at hr
  refine mGo.steps 1 (c' := (88, List.drop 1 mC88, [.ref a0, .int a1, .int a2, .int a3], [.ref a0], μ)) rfl ?_
  obtain ⟨h1, hr⟩ := mIf hr
  refine gGet (is := List.drop 2 mC88) (v := .int (mI μ a0 1)) h1 rfl ?_
  rcases mIte hr with ⟨h14, hr⟩ | ⟨h14, hr⟩
  · refine gBrT (p := (mI μ a0 1) < 0) (y := 88) (is := List.drop 3 mC88) (L := [.ref a0, .int a1, .int a2, .int a3]) (st := []) (μ := μ) (t := 15) rfl h14 ?_
    exact t88_7 a0 a1 a2 a3 μ (.ref a0) rfl (.int a1) rfl (.int a2) rfl (.int a3) rfl hr hC
  · refine gBrF (p := (mI μ a0 1) < 0) (y := 88) (is := List.drop 3 mC88) (L := [.ref a0, .int a1, .int a2, .int a3]) (st := []) (μ := μ) (t := 15) rfl h14 ?_
    refine mGo.steps 1 (c' := (88, List.drop 4 mC88, [.ref a0, .int a1, .int a2, .int a3], [.ref a0], μ)) rfl ?_
    refine gGet (is := List.drop 5 mC88) (v := .int (mI μ a0 1)) h1 rfl ?_
    refine mGo.steps 1 (c' := (88, List.drop 6 mC88, [.ref a0, .int a1, .int a2, .int a3], [.int 4, .int (mI μ a0 1)], μ)) rfl ?_
    rcases mIte hr with ⟨h13, hr⟩ | ⟨h13, hr⟩
    · refine gBrT (p := (mI μ a0 1) < 4) (y := 88) (is := List.drop 7 mC88) (L := [.ref a0, .int a1, .int a2, .int a3]) (st := []) (μ := μ) (t := 16) rfl h13 ?_
      refine mGo.steps 1 (c' := (88, List.drop 9 mC88, [.ref a0, .int a1, .int a2, .int a3], [.ref a0], μ)) rfl ?_
      refine gGet (is := List.drop 10 mC88) (v := .ref (mP μ a0 4)) h1 rfl ?_
      refine mGo.steps 1 (c' := (88, List.drop 11 mC88, [.ref a0, .int a1, .int a2, .int a3], [.ref a0, .ref (mP μ a0 4)], μ)) rfl ?_
      refine gGet (is := List.drop 12 mC88) (v := .int (mI μ a0 1)) h1 rfl ?_
      refine mGo.steps 1 (c' := (88, List.drop 13 mC88, [.ref a0, .int a1, .int a2, .int a3], [.int a1, .int (mI μ a0 1), .ref (mP μ a0 4)], μ)) rfl ?_
      obtain ⟨h2, hr⟩ := mIf hr
      replace hr := mBs hr
      refine gIast (is := List.drop 14 mC88) h2 ?_
      let μ3 : mM := mUI μ (mP μ a0 4) (Int32.toNatClampNeg (mI μ a0 1)) a1
      refine mGo.steps 1 (c' := (88, List.drop 15 mC88, [.ref a0, .int a1, .int a2, .int a3], [.ref a0], μ3)) rfl ?_
      refine gGet (is := List.drop 16 mC88) (v := .ref (mP μ3 a0 5)) h1 rfl ?_
      refine mGo.steps 1 (c' := (88, List.drop 17 mC88, [.ref a0, .int a1, .int a2, .int a3], [.ref a0, .ref (mP μ3 a0 5)], μ3)) rfl ?_
      refine gGet (is := List.drop 18 mC88) (v := .int (mI μ3 a0 1)) h1 rfl ?_
      refine mGo.steps 1 (c' := (88, List.drop 19 mC88, [.ref a0, .int a1, .int a2, .int a3], [.int a2, .int (mI μ3 a0 1), .ref (mP μ3 a0 5)], μ3)) rfl ?_
      obtain ⟨h4, hr⟩ := mIf hr
      replace hr := mBs hr
      refine gIast (is := List.drop 20 mC88) h4 ?_
      let μ5 : mM := mUI μ3 (mP μ3 a0 5) (Int32.toNatClampNeg (mI μ3 a0 1)) a2
      refine mGo.steps 1 (c' := (88, List.drop 21 mC88, [.ref a0, .int a1, .int a2, .int a3], [.ref a0], μ5)) rfl ?_
      refine gGet (is := List.drop 22 mC88) (v := .ref (mP μ5 a0 6)) h1 rfl ?_
      refine mGo.steps 1 (c' := (88, List.drop 23 mC88, [.ref a0, .int a1, .int a2, .int a3], [.ref a0, .ref (mP μ5 a0 6)], μ5)) rfl ?_
      refine gGet (is := List.drop 24 mC88) (v := .int (mI μ5 a0 1)) h1 rfl ?_
      refine mGo.steps 1 (c' := (88, List.drop 25 mC88, [.ref a0, .int a1, .int a2, .int a3], [.int a3, .int (mI μ5 a0 1), .ref (mP μ5 a0 6)], μ5)) rfl ?_
      obtain ⟨h6, hr⟩ := mIf hr
      replace hr := mBs hr
      refine gIast (is := List.drop 26 mC88) h6 ?_
      let μ7 : mM := mUI μ5 (mP μ5 a0 6) (Int32.toNatClampNeg (mI μ5 a0 1)) a3
      refine mGo.steps 1 (c' := (88, List.drop 27 mC88, [.ref a0, .int a1, .int a2, .int a3], [.ref a0], μ7)) rfl ?_
      refine gGet (is := List.drop 28 mC88) (v := .ref (mP μ7 a0 7)) h1 rfl ?_
      refine mGo.steps 1 (c' := (88, List.drop 29 mC88, [.ref a0, .int a1, .int a2, .int a3], [.ref a0, .ref (mP μ7 a0 7)], μ7)) rfl ?_
      refine gGet (is := List.drop 30 mC88) (v := .int (mI μ7 a0 1)) h1 rfl ?_
      refine mGo.steps 1 (c' := (88, List.drop 31 mC88, [.ref a0, .int a1, .int a2, .int a3], [.int 0, .int (mI μ7 a0 1), .ref (mP μ7 a0 7)], μ7)) rfl ?_
      obtain ⟨h8, hr⟩ := mIf hr
      replace hr := mBs hr
      refine gIast (is := List.drop 32 mC88) h8 ?_
      let μ9 : mM := mUI μ7 (mP μ7 a0 7) (Int32.toNatClampNeg (mI μ7 a0 1)) 0
      refine mGo.steps 1 (c' := (88, List.drop 33 mC88, [.ref a0, .int a1, .int a2, .int a3], [.ref a0], μ9)) rfl ?_
      refine gGet (is := List.drop 34 mC88) (v := .ref (mP μ9 a0 8)) h1 rfl ?_
      refine mGo.steps 1 (c' := (88, List.drop 35 mC88, [.ref a0, .int a1, .int a2, .int a3], [.ref a0, .ref (mP μ9 a0 8)], μ9)) rfl ?_
      refine gGet (is := List.drop 36 mC88) (v := .int (mI μ9 a0 1)) h1 rfl ?_
      refine mGo.steps 1 (c' := (88, List.drop 37 mC88, [.ref a0, .int a1, .int a2, .int a3], [.int 0, .int (mI μ9 a0 1), .ref (mP μ9 a0 8)], μ9)) rfl ?_
      obtain ⟨h10, hr⟩ := mIf hr
      replace hr := mBs hr
      refine gIast (is := List.drop 38 mC88) h10 ?_
      let μ11 : mM := mUI μ9 (mP μ9 a0 8) (Int32.toNatClampNeg (mI μ9 a0 1)) 0
      refine mGo.steps 2 (c' := (88, List.drop 40 mC88, [.ref a0, .int a1, .int a2, .int a3], [.ref a0, .ref a0], μ11)) rfl ?_
      refine gGet (is := List.drop 41 mC88) (v := .int (mI μ11 a0 1)) h1 rfl ?_
      refine mGo.steps 2 (c' := (88, List.drop 43 mC88, [.ref a0, .int a1, .int a2, .int a3], [.int ((mI μ11 a0 1) + 1), .ref a0], μ11)) rfl ?_
      replace hr := mBs hr
      refine gPut (is := List.drop 44 mC88) (μ' := mUI μ11 a0 1 ((mI μ11 a0 1) + 1)) h1 rfl ?_
      let μ12 : mM := mUI μ11 a0 1 ((mI μ11 a0 1) + 1)
      obtain rfl := Option.some.inj hr
      rw [show r = _ from hC]
      exact gVret rfl
    · refine gBrF (p := (mI μ a0 1) < 4) (y := 88) (is := List.drop 7 mC88) (L := [.ref a0, .int a1, .int a2, .int a3]) (st := []) (μ := μ) (t := 16) rfl h13 ?_
      exact t88_7 a0 a1 a2 a3 μ (.ref a0) rfl (.int a1) rfl (.int a2) rfl (.int a3) rfl hr hC

/-! 140: TunnelFabric.mostCredits(I)I -/
def s140 (μ : mM) (a0 : Int32) : Option Int32 :=
  if a0 = 0 then (some 4) else (if a0 = 1 then (some 6) else (some 3))
set_option maxRecDepth 20000 in
theorem t140 {μ : mM} {a0 : Int32} {o : Int32} (hr : s140 μ a0 = some o) : mEv mG 140 [.int a0] μ (some (.int o)) (μ) := by
  obtain ⟨r, hC⟩ : ∃ r : Option Value × mM, r = (some (.int o), μ) := ⟨_, rfl⟩
  show mGo mG (140, List.drop 0 mC140, [.int a0], [], μ) (some (.int o), μ)
  rw [← hC]
  unfold s140 at hr
  refine mGo.steps 1 (c' := (140, List.drop 1 mC140, [.int a0], [.int a0], μ)) rfl ?_
  refine mGo.steps 1 (c' := (140, mSeek (mLs a0 [(0, 27), (1, 29)] [28, 30] 33) (rC (mG 140)), [.int a0], [], μ)) rfl ?_
  rcases mIte hr with ⟨h1, hr⟩ | ⟨h1, hr⟩
  · refine gLs1 (w := 0) h1 rfl ?_
    refine mGo.steps 1 (c' := (140, List.drop 3 mC140, [.int a0], [.int 4], μ)) rfl ?_
    obtain rfl := Option.some.inj hr
    rw [show r = _ from hC]
    exact gIret rfl
  · refine gLs0 (w := 0) h1 rfl ?_
    rcases mIte hr with ⟨h2, hr⟩ | ⟨h2, hr⟩
    · refine gLs1 (w := 1) h2 rfl ?_
      refine mGo.steps 1 (c' := (140, List.drop 5 mC140, [.int a0], [.int 6], μ)) rfl ?_
      obtain rfl := Option.some.inj hr
      rw [show r = _ from hC]
      exact gIret rfl
    · refine gLs0 (w := 1) h2 rfl ?_
      refine mGo.steps 1 (c' := (140, List.drop 7 mC140, [.int a0], [.int 3], μ)) rfl ?_
      obtain rfl := Option.some.inj hr
      rw [show r = _ from hC]
      exact gIret rfl

/-! 47: TunnelFabric$Fabric.layHop(LTunnelFabric$Tunnel;II)V -/
def s47 (μ : mM) (a0 : Nat) (a1 : Nat) (a2 : Int32) (a3 : Int32) : Option mM :=
  if (mS μ a1).1 = 6 then (s140 μ (mI μ a1 1)).bind fun q2 => if (mS μ a0).1 = 1 then (s36 μ a0 a3 a2).bind fun q5 => (s78 μ a1 a2).bind fun q7 => (s37 μ a0 a3 a2).bind fun q9 => if (mS μ q7).1 = 7 then (s88 μ q7 a3 q9 (mMin q2 q5)).bind fun q12 => some q12 else none else none else none
set_option maxRecDepth 20000 in
theorem t47 {μ : mM} {a0 : Nat} {a1 : Nat} {a2 : Int32} {a3 : Int32} {o : mM} (hr : s47 μ a0 a1 a2 a3 = some o) : mEv mG 47 [.ref a0, .ref a1, .int a2, .int a3] μ (none) (o) := by
  obtain ⟨r, hC⟩ : ∃ r : Option Value × mM, r = (none, o) := ⟨_, rfl⟩
  show mGo mG (47, List.drop 0 mC47, [.ref a0, .ref a1, .int a2, .int a3, .retAddr 0], [], μ) (none, o)
  rw [← hC]
  unfold s47 at hr
  refine mGo.steps 1 (c' := (47, List.drop 1 mC47, [.ref a0, .ref a1, .int a2, .int a3, .retAddr 0], [.ref a1], μ)) rfl ?_
  obtain ⟨h1, hr⟩ := mIf hr
  refine gGet (is := List.drop 2 mC47) (v := .int (mI μ a1 1)) h1 rfl ?_
  obtain ⟨q2, h3, hr⟩ := mBi hr
  refine mGo.call (z := 140) (as := [.int (mI μ a1 1)]) (y := 47) (is := List.drop 3 mC47) (L := [.ref a0, .ref a1, .int a2, .int a3, .retAddr 0]) (st := []) (μ := μ) rfl (t140 h3) ?_
  refine mGo.steps 3 (c' := (47, List.drop 6 mC47, [.ref a0, .ref a1, .int a2, .int a3, .retAddr 0], [.int a2, .int a3, .ref a0, .int q2], μ)) rfl ?_
  obtain ⟨h4, hr⟩ := mIf hr
  obtain ⟨q5, h6, hr⟩ := mBi hr
  refine gCall (z := 36) (n := 2) (f := 0) (kind := 1) (a := a0) (As := [.int a3, .int a2]) (y := 47) (is := List.drop 7 mC47) (L := [.ref a0, .ref a1, .int a2, .int a3, .retAddr 0]) (rest := [.int q2]) (μ := μ) rfl (by decide) (by decide) ⟨rfl, rfl⟩ rfl h4 (Nat.le_of_ble_eq_true rfl) (Nat.le_of_ble_eq_true rfl) (t36 h6) ?_
  refine mGo.steps 4 (c' := (47, List.drop 11 mC47, [.ref a0, .ref a1, .int a2, .int a3, .int (mMin q2 q5)], [.int a2, .ref a1], μ)) rfl ?_
  obtain ⟨q7, h8, hr⟩ := mBi hr
  refine gCall (z := 78) (n := 1) (f := 0) (kind := 1) (a := a1) (As := [.int a2]) (y := 47) (is := List.drop 12 mC47) (L := [.ref a0, .ref a1, .int a2, .int a3, .int (mMin q2 q5)]) (rest := []) (μ := μ) rfl (by decide) (by decide) ⟨rfl, rfl⟩ rfl h1 (Nat.le_of_ble_eq_true rfl) (Nat.le_of_ble_eq_true rfl) (t78 h8) ?_
  refine mGo.steps 4 (c' := (47, List.drop 16 mC47, [.ref a0, .ref a1, .int a2, .int a3, .int (mMin q2 q5)], [.int a2, .int a3, .ref a0, .int a3, .ref q7], μ)) rfl ?_
  obtain ⟨q9, h10, hr⟩ := mBi hr
  refine gCall (z := 37) (n := 2) (f := 0) (kind := 1) (a := a0) (As := [.int a3, .int a2]) (y := 47) (is := List.drop 17 mC47) (L := [.ref a0, .ref a1, .int a2, .int a3, .int (mMin q2 q5)]) (rest := [.int a3, .ref q7]) (μ := μ) rfl (by decide) (by decide) ⟨rfl, rfl⟩ rfl h4 (Nat.le_of_ble_eq_true rfl) (Nat.le_of_ble_eq_true rfl) (t37 h10) ?_
  refine mGo.steps 1 (c' := (47, List.drop 18 mC47, [.ref a0, .ref a1, .int a2, .int a3, .int (mMin q2 q5)], [.int (mMin q2 q5), .int q9, .int a3, .ref q7], μ)) rfl ?_
  obtain ⟨h11, hr⟩ := mIf hr
  obtain ⟨q12, h13, hr⟩ := mBi hr
  refine gCall (z := 88) (n := 3) (f := 0) (kind := 1) (a := q7) (As := [.int a3, .int q9, .int (mMin q2 q5)]) (y := 47) (is := List.drop 19 mC47) (L := [.ref a0, .ref a1, .int a2, .int a3, .int (mMin q2 q5)]) (rest := []) (μ := μ) rfl (by decide) (by decide) ⟨rfl, rfl⟩ rfl h11 (Nat.le_of_ble_eq_true rfl) (Nat.le_of_ble_eq_true rfl) (t88 h13) ?_
  obtain rfl := Option.some.inj hr
  rw [show r = _ from hC]
  exact gVret rfl

/-! 48: TunnelFabric$Fabric.ancestorAt(II)I -/
def s48L4 (μ : mM) (p0 : Nat) (p2 : Int32) (s : Int32 × Int32) : Option ((Int32 × Int32) ⊕ ((Int32) ⊕ Int32)) :=
  if 4 ≤ s.2 then (some (.inr (.inl s.1))) else (if (mS μ p0).1 = 1 then (s18 μ p0 s.1).bind fun q2 => if (mS μ q2).1 = 4 then if (mI μ q2 5) ≤ p2 then (some (.inr (.inl s.1))) else ((s18 μ p0 s.1).bind fun q5 => if (mS μ q5).1 = 4 then some (.inl (mI μ q5 3, s.2 + 1)) else none) else none else none)
set_option maxRecDepth 20000 in
theorem t48L4 (μ : mM) (p0 : Nat) (p2 : Int32) {r : Option Value × mM} (s : Int32 × Int32) (o : ((Int32 × Int32) ⊕ ((Int32) ⊕ Int32))) (hr : s48L4 μ p0 p2 s = some o) (hC : Sum.elim (fun s' : Int32 × Int32 => ∀ (w1 : Value) (hw1 : mNotL w1 = true), mGo mG (48, List.drop 4 mC48, [.ref p0, w1, .int p2, .int s'.1, .int s'.2], [], μ) r) (Sum.elim (fun x : Int32 => ∀ (w0 : Value) (hw0 : mNotL w0 = true) (w1 : Value) (hw1 : mNotL w1 = true) (w2 : Value) (hw2 : mNotL w2 = true) (w4 : Value) (hw4 : mNotL w4 = true), mGo mG (48, List.drop 20 mC48, [w0, w1, w2, .int x, w4], [], μ) r) (fun y : Int32 => r = (some (.int y), μ))) o) : ∀ (w1 : Value) (hw1 : mNotL w1 = true), mGo mG (48, List.drop 4 mC48, [.ref p0, w1, .int p2, .int s.1, .int s.2], [], μ) r := by
  intro w1 hw1
  unfold s48L4 at hr
  refine mGo.steps 2 (c' := (48, List.drop 6 mC48, [.ref p0, w1, .int p2, .int s.1, .int s.2], [.int 4, .int s.2], μ)) rfl ?_
  rcases mIte hr with ⟨h9, hr⟩ | ⟨h9, hr⟩
  · refine gBrT (p := 4 ≤ s.2) (y := 48) (is := List.drop 7 mC48) (L := [.ref p0, w1, .int p2, .int s.1, .int s.2]) (st := []) (μ := μ) (t := 38) rfl h9 ?_
    obtain rfl := Option.some.inj hr
    exact hC (.ref p0) rfl w1 hw1 (.int p2) rfl (.int s.2) rfl
  · refine gBrF (p := 4 ≤ s.2) (y := 48) (is := List.drop 7 mC48) (L := [.ref p0, w1, .int p2, .int s.1, .int s.2]) (st := []) (μ := μ) (t := 38) rfl h9 ?_
    refine mGo.steps 2 (c' := (48, List.drop 9 mC48, [.ref p0, w1, .int p2, .int s.1, .int s.2], [.int s.1, .ref p0], μ)) rfl ?_
    obtain ⟨h1, hr⟩ := mIf hr
    obtain ⟨q2, h3, hr⟩ := mBi hr
    refine gCall (z := 18) (n := 1) (f := 0) (kind := 1) (a := p0) (As := [.int s.1]) (y := 48) (is := List.drop 10 mC48) (L := [.ref p0, w1, .int p2, .int s.1, .int s.2]) (rest := []) (μ := μ) rfl (by decide) (by decide) ⟨rfl, rfl⟩ rfl h1 (Nat.le_of_ble_eq_true rfl) (Nat.le_of_ble_eq_true rfl) (t18 h3) ?_
    obtain ⟨h4, hr⟩ := mIf hr
    refine gGet (is := List.drop 11 mC48) (v := .int (mI μ q2 5)) h4 rfl ?_
    refine mGo.steps 1 (c' := (48, List.drop 12 mC48, [.ref p0, w1, .int p2, .int s.1, .int s.2], [.int p2, .int (mI μ q2 5)], μ)) rfl ?_
    rcases mIte hr with ⟨h8, hr⟩ | ⟨h8, hr⟩
    · refine gBrT (p := (mI μ q2 5) ≤ p2) (y := 48) (is := List.drop 13 mC48) (L := [.ref p0, w1, .int p2, .int s.1, .int s.2]) (st := []) (μ := μ) (t := 38) rfl h8 ?_
      obtain rfl := Option.some.inj hr
      exact hC (.ref p0) rfl w1 hw1 (.int p2) rfl (.int s.2) rfl
    · refine gBrF (p := (mI μ q2 5) ≤ p2) (y := 48) (is := List.drop 13 mC48) (L := [.ref p0, w1, .int p2, .int s.1, .int s.2]) (st := []) (μ := μ) (t := 38) rfl h8 ?_
      refine mGo.steps 2 (c' := (48, List.drop 15 mC48, [.ref p0, w1, .int p2, .int s.1, .int s.2], [.int s.1, .ref p0], μ)) rfl ?_
      obtain ⟨q5, h6, hr⟩ := mBi hr
      refine gCall (z := 18) (n := 1) (f := 0) (kind := 1) (a := p0) (As := [.int s.1]) (y := 48) (is := List.drop 16 mC48) (L := [.ref p0, w1, .int p2, .int s.1, .int s.2]) (rest := []) (μ := μ) rfl (by decide) (by decide) ⟨rfl, rfl⟩ rfl h1 (Nat.le_of_ble_eq_true rfl) (Nat.le_of_ble_eq_true rfl) (t18 h6) ?_
      obtain ⟨h7, hr⟩ := mIf hr
      refine gGet (is := List.drop 17 mC48) (v := .int (mI μ q5 3)) h7 rfl ?_
      refine mGo.steps 3 (c' := (48, List.drop 4 mC48, [.ref p0, w1, .int p2, .int (mI μ q5 3), .int (s.2 + 1)], [], μ)) rfl ?_
      obtain rfl := Option.some.inj hr
      exact hC w1 hw1
theorem t48L4l (μ : mM) (p0 : Nat) (p2 : Int32) {r : Option Value × mM} (n : Nat) (s : Int32 × Int32) (o : (Int32) ⊕ Int32) (hr : mLoop (s48L4 μ p0 p2) n s = some o) (hC : Sum.elim (fun x : Int32 => ∀ (w0 : Value) (hw0 : mNotL w0 = true) (w1 : Value) (hw1 : mNotL w1 = true) (w2 : Value) (hw2 : mNotL w2 = true) (w4 : Value) (hw4 : mNotL w4 = true), mGo mG (48, List.drop 20 mC48, [w0, w1, w2, .int x, w4], [], μ) r) (fun y : Int32 => r = (some (.int y), μ)) o) : ∀ (w1 : Value) (hw1 : mNotL w1 = true), mGo mG (48, List.drop 4 mC48, [.ref p0, w1, .int p2, .int s.1, .int s.2], [], μ) r :=
  mLoop_go (Hd := (fun s' : Int32 × Int32 => ∀ (w1 : Value) (hw1 : mNotL w1 = true), mGo mG (48, List.drop 4 mC48, [.ref p0, w1, .int p2, .int s'.1, .int s'.2], [], μ) r)) (fun s o hb hC => t48L4 μ p0 p2 s o hb hC) n s o hr hC
def s48_20 (μ : mM) (a0 : Nat) (a1 : Int32) (a2 : Int32) (v3 : Int32) : Option Int32 :=
  some v3
set_option maxRecDepth 20000 in
theorem t48_20 (μ : mM) (a0 : Nat) (a1 : Int32) (a2 : Int32) (v3 : Int32) (w0 : Value) (hw0 : mNotL w0 = true) (w1 : Value) (hw1 : mNotL w1 = true) (w2 : Value) (hw2 : mNotL w2 = true) (w4 : Value) (hw4 : mNotL w4 = true) {o : Int32} {r : Option Value × mM} (hr : s48_20 μ a0 a1 a2 v3 = some o) (hC : r = (some (.int o), μ)) : mGo mG (48, List.drop 20 mC48, [w0, w1, w2, .int v3, w4], [], μ) r := by
  unfold s48_20 at hr
  refine mGo.steps 1 (c' := (48, List.drop 21 mC48, [w0, w1, w2, .int v3, w4], [.int v3], μ)) rfl ?_
  obtain rfl := Option.some.inj hr
  rw [show r = _ from hC]
  exact gIret rfl
def s48 (μ : mM) (a0 : Nat) (a1 : Int32) (a2 : Int32) : Option Int32 :=
  (mLoop (s48L4 μ a0 a2) 1000 (a1, 0)).bind fun o10 => Sum.elim (fun x11 => s48_20 μ a0 a1 a2 x11) (fun y12 => some y12) o10
set_option maxRecDepth 20000 in
theorem t48 {μ : mM} {a0 : Nat} {a1 : Int32} {a2 : Int32} {o : Int32} (hr : s48 μ a0 a1 a2 = some o) : mEv mG 48 [.ref a0, .int a1, .int a2] μ (some (.int o)) (μ) := by
  obtain ⟨r, hC⟩ : ∃ r : Option Value × mM, r = (some (.int o), μ) := ⟨_, rfl⟩
  show mGo mG (48, List.drop 0 mC48, [.ref a0, .int a1, .int a2, .retAddr 0, .retAddr 0], [], μ) (some (.int o), μ)
  rw [← hC]
  unfold s48 at hr
  refine mGo.steps 4 (c' := (48, List.drop 4 mC48, [.ref a0, .int a1, .int a2, .int a1, .int 0], [], μ)) rfl ?_
  obtain ⟨o10, h13, hr⟩ := mBi hr
  refine t48L4l μ a0 a2 1000 (a1, 0) o10 h13 ?_ (.int a1) rfl
  cases o10 with
  | inl x11 =>
    show ∀ (w0 : Value) (hw0 : mNotL w0 = true) (w1 : Value) (hw1 : mNotL w1 = true) (w2 : Value) (hw2 : mNotL w2 = true) (w4 : Value) (hw4 : mNotL w4 = true), mGo mG (48, List.drop 20 mC48, [w0, w1, w2, .int x11, w4], [], μ) r
    intro w0 hw0 w1 hw1 w2 hw2 w4 hw4
    replace hr : (_) = some _ := hr
    exact t48_20 μ a0 a1 a2 x11 w0 hw0 w1 hw1 w2 hw2 w4 hw4 hr hC
  | inr y12 =>
    obtain rfl := Option.some.inj hr
    exact hC

/-! 45: TunnelFabric$Fabric.layDown(LTunnelFabric$Tunnel;)V -/
def s45L8 (p0 : Nat) (p1 : Nat) (p2 : Int32) (s : Int32 × mM) : Option ((Int32 × mM) ⊕ ((mM) ⊕ mM)) :=
  if p2 < s.1 then (some (.inr (.inl s.2))) else (if 4 < s.1 then (some (.inr (.inl s.2))) else (if (mS s.2 p1).1 = 6 then if (mS s.2 p0).1 = 1 then (s48 s.2 p0 (mI s.2 p1 2) s.1).bind fun q8 => (s47 s.2 p0 p1 0 q8).bind fun q10 => some (.inl (s.1 + 1, q10)) else none else none))
set_option maxRecDepth 20000 in
theorem t45L8 (p0 : Nat) (p1 : Nat) (p2 : Int32) {r : Option Value × mM} (s : Int32 × mM) (o : ((Int32 × mM) ⊕ ((mM) ⊕ mM))) (hr : s45L8 p0 p1 p2 s = some o) (hC : Sum.elim (fun s' : Int32 × mM => mGo mG (45, List.drop 8 mC45, [.ref p0, .ref p1, .int p2, .int s'.1], [], s'.2) r) (Sum.elim (fun x : mM => ∀ (w0 : Value) (hw0 : mNotL w0 = true) (w2 : Value) (hw2 : mNotL w2 = true) (w3 : Value) (hw3 : mNotL w3 = true), mGo mG (45, List.drop 25 mC45, [w0, .ref p1, w2, w3], [], x) r) (fun y : mM => r = (none, y))) o) : mGo mG (45, List.drop 8 mC45, [.ref p0, .ref p1, .int p2, .int s.1], [], s.2) r := by
  unfold s45L8 at hr
  refine mGo.steps 2 (c' := (45, List.drop 10 mC45, [.ref p0, .ref p1, .int p2, .int s.1], [.int p2, .int s.1], s.2)) rfl ?_
  rcases mIte hr with ⟨h13, hr⟩ | ⟨h13, hr⟩
  · refine gBrT (p := p2 < s.1) (y := 45) (is := List.drop 11 mC45) (L := [.ref p0, .ref p1, .int p2, .int s.1]) (st := []) (μ := s.2) (t := 45) rfl h13 ?_
    obtain rfl := Option.some.inj hr
    exact hC (.ref p0) rfl (.int p2) rfl (.int s.1) rfl
  · refine gBrF (p := p2 < s.1) (y := 45) (is := List.drop 11 mC45) (L := [.ref p0, .ref p1, .int p2, .int s.1]) (st := []) (μ := s.2) (t := 45) rfl h13 ?_
    refine mGo.steps 2 (c' := (45, List.drop 13 mC45, [.ref p0, .ref p1, .int p2, .int s.1], [.int 4, .int s.1], s.2)) rfl ?_
    rcases mIte hr with ⟨h12, hr⟩ | ⟨h12, hr⟩
    · refine gBrT (p := 4 < s.1) (y := 45) (is := List.drop 14 mC45) (L := [.ref p0, .ref p1, .int p2, .int s.1]) (st := []) (μ := s.2) (t := 45) rfl h12 ?_
      obtain rfl := Option.some.inj hr
      exact hC (.ref p0) rfl (.int p2) rfl (.int s.1) rfl
    · refine gBrF (p := 4 < s.1) (y := 45) (is := List.drop 14 mC45) (L := [.ref p0, .ref p1, .int p2, .int s.1]) (st := []) (μ := s.2) (t := 45) rfl h12 ?_
      refine mGo.steps 5 (c' := (45, List.drop 19 mC45, [.ref p0, .ref p1, .int p2, .int s.1], [.ref p1, .ref p0, .int 0, .ref p1, .ref p0], s.2)) rfl ?_
      obtain ⟨h6, hr⟩ := mIf hr
      refine gGet (is := List.drop 20 mC45) (v := .int (mI s.2 p1 2)) h6 rfl ?_
      refine mGo.steps 1 (c' := (45, List.drop 21 mC45, [.ref p0, .ref p1, .int p2, .int s.1], [.int s.1, .int (mI s.2 p1 2), .ref p0, .int 0, .ref p1, .ref p0], s.2)) rfl ?_
      obtain ⟨h7, hr⟩ := mIf hr
      obtain ⟨q8, h9, hr⟩ := mBi hr
      refine gCall (z := 48) (n := 2) (f := 0) (kind := 1) (a := p0) (As := [.int (mI s.2 p1 2), .int s.1]) (y := 45) (is := List.drop 22 mC45) (L := [.ref p0, .ref p1, .int p2, .int s.1]) (rest := [.int 0, .ref p1, .ref p0]) (μ := s.2) rfl (by decide) (by decide) ⟨rfl, rfl⟩ rfl h7 (Nat.le_of_ble_eq_true rfl) (Nat.le_of_ble_eq_true rfl) (t48 h9) ?_
      obtain ⟨q10, h11, hr⟩ := mBi hr
      refine gCall (z := 47) (n := 3) (f := 0) (kind := 1) (a := p0) (As := [.ref p1, .int 0, .int q8]) (y := 45) (is := List.drop 23 mC45) (L := [.ref p0, .ref p1, .int p2, .int s.1]) (rest := []) (μ := s.2) rfl (by decide) (by decide) ⟨rfl, rfl⟩ rfl h7 (Nat.le_of_ble_eq_true rfl) (Nat.le_of_ble_eq_true rfl) (t47 h11) ?_
      refine mGo.steps 2 (c' := (45, List.drop 8 mC45, [.ref p0, .ref p1, .int p2, .int (s.1 + 1)], [], q10)) rfl ?_
      obtain rfl := Option.some.inj hr
      exact hC
theorem t45L8l (p0 : Nat) (p1 : Nat) (p2 : Int32) {r : Option Value × mM} (n : Nat) (s : Int32 × mM) (o : (mM) ⊕ mM) (hr : mLoop (s45L8 p0 p1 p2) n s = some o) (hC : Sum.elim (fun x : mM => ∀ (w0 : Value) (hw0 : mNotL w0 = true) (w2 : Value) (hw2 : mNotL w2 = true) (w3 : Value) (hw3 : mNotL w3 = true), mGo mG (45, List.drop 25 mC45, [w0, .ref p1, w2, w3], [], x) r) (fun y : mM => r = (none, y)) o) : mGo mG (45, List.drop 8 mC45, [.ref p0, .ref p1, .int p2, .int s.1], [], s.2) r :=
  mLoop_go (Hd := (fun s' : Int32 × mM => mGo mG (45, List.drop 8 mC45, [.ref p0, .ref p1, .int p2, .int s'.1], [], s'.2) r)) (fun s o hb hC => t45L8 p0 p1 p2 s o hb hC) n s o hr hC
def s45_25 (a0 : Nat) (a1 : Nat) (μ : mM) : Option mM :=
  if (mS μ a1).1 = 6 then if (mS μ (mP μ a1 6)).1 = 7 then (some (mUI μ (mP μ a1 6) 0 1)).bind fun μ20 => some μ20 else none else none
set_option maxRecDepth 20000 in
theorem t45_25 (a0 : Nat) (a1 : Nat) (μ : mM) (w0 : Value) (hw0 : mNotL w0 = true) (w2 : Value) (hw2 : mNotL w2 = true) (w3 : Value) (hw3 : mNotL w3 = true) {o : mM} {r : Option Value × mM} (hr : s45_25 a0 a1 μ = some o) (hC : r = (none, o)) : mGo mG (45, List.drop 25 mC45, [w0, .ref a1, w2, w3], [], μ) r := by
  unfold s45_25 at hr
  refine mGo.steps 1 (c' := (45, List.drop 26 mC45, [w0, .ref a1, w2, w3], [.ref a1], μ)) rfl ?_
  obtain ⟨h18, hr⟩ := mIf hr
  refine gGet (is := List.drop 27 mC45) (v := .ref (mP μ a1 6)) h18 rfl ?_
  refine mGo.steps 1 (c' := (45, List.drop 28 mC45, [w0, .ref a1, w2, w3], [.int 1, .ref (mP μ a1 6)], μ)) rfl ?_
  obtain ⟨h19, hr⟩ := mIf hr
  replace hr := mBs hr
  refine gPut (is := List.drop 29 mC45) (μ' := mUI μ (mP μ a1 6) 0 1) h19 (gZ (by decide)) ?_
  let μ20 : mM := mUI μ (mP μ a1 6) 0 1
  obtain rfl := Option.some.inj hr
  rw [show r = _ from hC]
  exact gVret rfl
def s45 (μ : mM) (a0 : Nat) (a1 : Nat) : Option mM :=
  if (mS μ a1).1 = 6 then if (mS μ a0).1 = 1 then (s18 μ a0 (mI μ a1 2)).bind fun q3 => if (mS μ q3).1 = 4 then (mLoop (s45L8 a0 a1 (mI μ q3 5)) 1000 (1, μ)).bind fun o14 => Sum.elim (fun x15 => s45_25 a0 a1 x15) (fun y16 => some y16) o14 else none else none else none
set_option maxRecDepth 20000 in
theorem t45 {μ : mM} {a0 : Nat} {a1 : Nat} {o : mM} (hr : s45 μ a0 a1 = some o) : mEv mG 45 [.ref a0, .ref a1] μ (none) (o) := by
  obtain ⟨r, hC⟩ : ∃ r : Option Value × mM, r = (none, o) := ⟨_, rfl⟩
  show mGo mG (45, List.drop 0 mC45, [.ref a0, .ref a1, .retAddr 0, .retAddr 0], [], μ) (none, o)
  rw [← hC]
  unfold s45 at hr
  refine mGo.steps 2 (c' := (45, List.drop 2 mC45, [.ref a0, .ref a1, .retAddr 0, .retAddr 0], [.ref a1, .ref a0], μ)) rfl ?_
  obtain ⟨h1, hr⟩ := mIf hr
  refine gGet (is := List.drop 3 mC45) (v := .int (mI μ a1 2)) h1 rfl ?_
  obtain ⟨h2, hr⟩ := mIf hr
  obtain ⟨q3, h4, hr⟩ := mBi hr
  refine gCall (z := 18) (n := 1) (f := 0) (kind := 1) (a := a0) (As := [.int (mI μ a1 2)]) (y := 45) (is := List.drop 4 mC45) (L := [.ref a0, .ref a1, .retAddr 0, .retAddr 0]) (rest := []) (μ := μ) rfl (by decide) (by decide) ⟨rfl, rfl⟩ rfl h2 (Nat.le_of_ble_eq_true rfl) (Nat.le_of_ble_eq_true rfl) (t18 h4) ?_
  obtain ⟨h5, hr⟩ := mIf hr
  refine gGet (is := List.drop 5 mC45) (v := .int (mI μ q3 5)) h5 rfl ?_
  refine mGo.steps 3 (c' := (45, List.drop 8 mC45, [.ref a0, .ref a1, .int (mI μ q3 5), .int 1], [], μ)) rfl ?_
  obtain ⟨o14, h17, hr⟩ := mBi hr
  refine t45L8l a0 a1 (mI μ q3 5) 1000 (1, μ) o14 h17 ?_ 
  cases o14 with
  | inl x15 =>
    show ∀ (w0 : Value) (hw0 : mNotL w0 = true) (w2 : Value) (hw2 : mNotL w2 = true) (w3 : Value) (hw3 : mNotL w3 = true), mGo mG (45, List.drop 25 mC45, [w0, .ref a1, w2, w3], [], x15) r
    intro w0 hw0 w2 hw2 w3 hw3
    replace hr : (_) = some _ := hr
    exact t45_25 a0 a1 x15 w0 hw0 w2 hw2 w3 hw3 hr hC
  | inr y16 =>
    obtain rfl := Option.some.inj hr
    exact hC

/-! 46: TunnelFabric$Fabric.layUp(LTunnelFabric$Tunnel;)V -/
def s46L5 (p0 : Nat) (p1 : Nat) (s : Int32 × Int32 × mM) : Option ((Int32 × Int32 × mM) ⊕ ((mM) ⊕ mM)) :=
  if 4 ≤ s.2.1 then (some (.inr (.inl s.2.2))) else (if s.1 = 0 then (some (.inr (.inl s.2.2))) else (if (mS s.2.2 p0).1 = 1 then (s47 s.2.2 p0 p1 1 s.1).bind fun q3 => if (mS q3 p0).1 = 1 then (s18 q3 p0 s.1).bind fun q6 => if (mS q3 q6).1 = 4 then some (.inl (mI q3 q6 3, s.2.1 + 1, q3)) else none else none else none))
set_option maxRecDepth 20000 in
theorem t46L5 (p0 : Nat) (p1 : Nat) {r : Option Value × mM} (s : Int32 × Int32 × mM) (o : ((Int32 × Int32 × mM) ⊕ ((mM) ⊕ mM))) (hr : s46L5 p0 p1 s = some o) (hC : Sum.elim (fun s' : Int32 × Int32 × mM => mGo mG (46, List.drop 5 mC46, [.ref p0, .ref p1, .int s'.1, .int s'.2.1], [], s'.2.2) r) (Sum.elim (fun x : mM => ∀ (w0 : Value) (hw0 : mNotL w0 = true) (w2 : Value) (hw2 : mNotL w2 = true) (w3 : Value) (hw3 : mNotL w3 = true), mGo mG (46, List.drop 22 mC46, [w0, .ref p1, w2, w3], [], x) r) (fun y : mM => r = (none, y))) o) : mGo mG (46, List.drop 5 mC46, [.ref p0, .ref p1, .int s.1, .int s.2.1], [], s.2.2) r := by
  unfold s46L5 at hr
  refine mGo.steps 2 (c' := (46, List.drop 7 mC46, [.ref p0, .ref p1, .int s.1, .int s.2.1], [.int 4, .int s.2.1], s.2.2)) rfl ?_
  rcases mIte hr with ⟨h10, hr⟩ | ⟨h10, hr⟩
  · refine gBrT (p := 4 ≤ s.2.1) (y := 46) (is := List.drop 8 mC46) (L := [.ref p0, .ref p1, .int s.1, .int s.2.1]) (st := []) (μ := s.2.2) (t := 38) rfl h10 ?_
    obtain rfl := Option.some.inj hr
    exact hC (.ref p0) rfl (.int s.1) rfl (.int s.2.1) rfl
  · refine gBrF (p := 4 ≤ s.2.1) (y := 46) (is := List.drop 8 mC46) (L := [.ref p0, .ref p1, .int s.1, .int s.2.1]) (st := []) (μ := s.2.2) (t := 38) rfl h10 ?_
    refine mGo.steps 1 (c' := (46, List.drop 9 mC46, [.ref p0, .ref p1, .int s.1, .int s.2.1], [.int s.1], s.2.2)) rfl ?_
    rcases mIte hr with ⟨h9, hr⟩ | ⟨h9, hr⟩
    · refine gBrT (p := s.1 = 0) (y := 46) (is := List.drop 10 mC46) (L := [.ref p0, .ref p1, .int s.1, .int s.2.1]) (st := []) (μ := s.2.2) (t := 38) rfl h9 ?_
      obtain rfl := Option.some.inj hr
      exact hC (.ref p0) rfl (.int s.1) rfl (.int s.2.1) rfl
    · refine gBrF (p := s.1 = 0) (y := 46) (is := List.drop 10 mC46) (L := [.ref p0, .ref p1, .int s.1, .int s.2.1]) (st := []) (μ := s.2.2) (t := 38) rfl h9 ?_
      refine mGo.steps 4 (c' := (46, List.drop 14 mC46, [.ref p0, .ref p1, .int s.1, .int s.2.1], [.int s.1, .int 1, .ref p1, .ref p0], s.2.2)) rfl ?_
      obtain ⟨h2, hr⟩ := mIf hr
      obtain ⟨q3, h4, hr⟩ := mBi hr
      refine gCall (z := 47) (n := 3) (f := 0) (kind := 1) (a := p0) (As := [.ref p1, .int 1, .int s.1]) (y := 46) (is := List.drop 15 mC46) (L := [.ref p0, .ref p1, .int s.1, .int s.2.1]) (rest := []) (μ := s.2.2) rfl (by decide) (by decide) ⟨rfl, rfl⟩ rfl h2 (Nat.le_of_ble_eq_true rfl) (Nat.le_of_ble_eq_true rfl) (t47 h4) ?_
      refine mGo.steps 2 (c' := (46, List.drop 17 mC46, [.ref p0, .ref p1, .int s.1, .int s.2.1], [.int s.1, .ref p0], q3)) rfl ?_
      obtain ⟨h5, hr⟩ := mIf hr
      obtain ⟨q6, h7, hr⟩ := mBi hr
      refine gCall (z := 18) (n := 1) (f := 0) (kind := 1) (a := p0) (As := [.int s.1]) (y := 46) (is := List.drop 18 mC46) (L := [.ref p0, .ref p1, .int s.1, .int s.2.1]) (rest := []) (μ := q3) rfl (by decide) (by decide) ⟨rfl, rfl⟩ rfl h5 (Nat.le_of_ble_eq_true rfl) (Nat.le_of_ble_eq_true rfl) (t18 h7) ?_
      obtain ⟨h8, hr⟩ := mIf hr
      refine gGet (is := List.drop 19 mC46) (v := .int (mI q3 q6 3)) h8 rfl ?_
      refine mGo.steps 3 (c' := (46, List.drop 5 mC46, [.ref p0, .ref p1, .int (mI q3 q6 3), .int (s.2.1 + 1)], [], q3)) rfl ?_
      obtain rfl := Option.some.inj hr
      exact hC
theorem t46L5l (p0 : Nat) (p1 : Nat) {r : Option Value × mM} (n : Nat) (s : Int32 × Int32 × mM) (o : (mM) ⊕ mM) (hr : mLoop (s46L5 p0 p1) n s = some o) (hC : Sum.elim (fun x : mM => ∀ (w0 : Value) (hw0 : mNotL w0 = true) (w2 : Value) (hw2 : mNotL w2 = true) (w3 : Value) (hw3 : mNotL w3 = true), mGo mG (46, List.drop 22 mC46, [w0, .ref p1, w2, w3], [], x) r) (fun y : mM => r = (none, y)) o) : mGo mG (46, List.drop 5 mC46, [.ref p0, .ref p1, .int s.1, .int s.2.1], [], s.2.2) r :=
  mLoop_go (Hd := (fun s' : Int32 × Int32 × mM => mGo mG (46, List.drop 5 mC46, [.ref p0, .ref p1, .int s'.1, .int s'.2.1], [], s'.2.2) r)) (fun s o hb hC => t46L5 p0 p1 s o hb hC) n s o hr hC
def s46_22 (a0 : Nat) (a1 : Nat) (μ : mM) : Option mM :=
  if (mS μ a1).1 = 6 then if (mS μ (mP μ a1 7)).1 = 7 then (some (mUI μ (mP μ a1 7) 0 1)).bind fun μ17 => some μ17 else none else none
set_option maxRecDepth 20000 in
theorem t46_22 (a0 : Nat) (a1 : Nat) (μ : mM) (w0 : Value) (hw0 : mNotL w0 = true) (w2 : Value) (hw2 : mNotL w2 = true) (w3 : Value) (hw3 : mNotL w3 = true) {o : mM} {r : Option Value × mM} (hr : s46_22 a0 a1 μ = some o) (hC : r = (none, o)) : mGo mG (46, List.drop 22 mC46, [w0, .ref a1, w2, w3], [], μ) r := by
  unfold s46_22 at hr
  refine mGo.steps 1 (c' := (46, List.drop 23 mC46, [w0, .ref a1, w2, w3], [.ref a1], μ)) rfl ?_
  obtain ⟨h15, hr⟩ := mIf hr
  refine gGet (is := List.drop 24 mC46) (v := .ref (mP μ a1 7)) h15 rfl ?_
  refine mGo.steps 1 (c' := (46, List.drop 25 mC46, [w0, .ref a1, w2, w3], [.int 1, .ref (mP μ a1 7)], μ)) rfl ?_
  obtain ⟨h16, hr⟩ := mIf hr
  replace hr := mBs hr
  refine gPut (is := List.drop 26 mC46) (μ' := mUI μ (mP μ a1 7) 0 1) h16 (gZ (by decide)) ?_
  let μ17 : mM := mUI μ (mP μ a1 7) 0 1
  obtain rfl := Option.some.inj hr
  rw [show r = _ from hC]
  exact gVret rfl
def s46 (μ : mM) (a0 : Nat) (a1 : Nat) : Option mM :=
  if (mS μ a1).1 = 6 then (mLoop (s46L5 a0 a1) 1000 (mI μ a1 2, 0, μ)).bind fun o11 => Sum.elim (fun x12 => s46_22 a0 a1 x12) (fun y13 => some y13) o11 else none
set_option maxRecDepth 20000 in
theorem t46 {μ : mM} {a0 : Nat} {a1 : Nat} {o : mM} (hr : s46 μ a0 a1 = some o) : mEv mG 46 [.ref a0, .ref a1] μ (none) (o) := by
  obtain ⟨r, hC⟩ : ∃ r : Option Value × mM, r = (none, o) := ⟨_, rfl⟩
  show mGo mG (46, List.drop 0 mC46, [.ref a0, .ref a1, .retAddr 0, .retAddr 0], [], μ) (none, o)
  rw [← hC]
  unfold s46 at hr
  refine mGo.steps 1 (c' := (46, List.drop 1 mC46, [.ref a0, .ref a1, .retAddr 0, .retAddr 0], [.ref a1], μ)) rfl ?_
  obtain ⟨h1, hr⟩ := mIf hr
  refine gGet (is := List.drop 2 mC46) (v := .int (mI μ a1 2)) h1 rfl ?_
  refine mGo.steps 3 (c' := (46, List.drop 5 mC46, [.ref a0, .ref a1, .int (mI μ a1 2), .int 0], [], μ)) rfl ?_
  obtain ⟨o11, h14, hr⟩ := mBi hr
  refine t46L5l a0 a1 1000 (mI μ a1 2, 0, μ) o11 h14 ?_ 
  cases o11 with
  | inl x12 =>
    show ∀ (w0 : Value) (hw0 : mNotL w0 = true) (w2 : Value) (hw2 : mNotL w2 = true) (w3 : Value) (hw3 : mNotL w3 = true), mGo mG (46, List.drop 22 mC46, [w0, .ref a1, w2, w3], [], x12) r
    intro w0 hw0 w2 hw2 w3 hw3
    replace hr : (_) = some _ := hr
    exact t46_22 a0 a1 x12 w0 hw0 w2 hw2 w3 hw3 hr hC
  | inr y13 =>
    obtain rfl := Option.some.inj hr
    exact hC

/-! 57: TunnelFabric$Link.rouse()V -/
def s57_14 (a0 : Nat) (μ : mM) : Option mM :=
  some μ
set_option maxRecDepth 20000 in
theorem t57_14 (a0 : Nat) (μ : mM) (w0 : Value) (hw0 : mNotL w0 = true) {o : mM} {r : Option Value × mM} (hr : s57_14 a0 μ = some o) (hC : r = (none, o)) : mGo mG (57, List.drop 14 mC57, [w0], [], μ) r := by
  unfold s57_14 at hr
  obtain rfl := Option.some.inj hr
  rw [show r = _ from hC]
  exact gVret rfl
def s57 (μ : mM) (a0 : Nat) : Option mM :=
  if (mS μ a0).1 = 2 then if ¬ (mI μ a0 2) = 2 then (if ¬ (mI μ a0 2) = 1 then (s57_14 a0 μ) else ((some (mUI μ a0 2 0)).bind fun μ2 => s57_14 a0 μ2)) else ((s56 μ a0).bind fun q4 => s57_14 a0 q4) else none
set_option maxRecDepth 20000 in
theorem t57 {μ : mM} {a0 : Nat} {o : mM} (hr : s57 μ a0 = some o) : mEv mG 57 [.ref a0] μ (none) (o) := by
  obtain ⟨r, hC⟩ : ∃ r : Option Value × mM, r = (none, o) := ⟨_, rfl⟩
  show mGo mG (57, List.drop 0 mC57, [.ref a0], [], μ) (none, o)
  rw [← hC]
  unfold s57 at hr
  refine mGo.steps 1 (c' := (57, List.drop 1 mC57, [.ref a0], [.ref a0], μ)) rfl ?_
  obtain ⟨h1, hr⟩ := mIf hr
  refine gGet (is := List.drop 2 mC57) (v := .int (mI μ a0 2)) h1 rfl ?_
  refine mGo.steps 1 (c' := (57, List.drop 3 mC57, [.ref a0], [.int 2, .int (mI μ a0 2)], μ)) rfl ?_
  rcases mIte hr with ⟨h6, hr⟩ | ⟨h6, hr⟩
  · refine gBrT (p := ¬ (mI μ a0 2) = 2) (y := 57) (is := List.drop 4 mC57) (L := [.ref a0]) (st := []) (μ := μ) (t := 15) rfl h6 ?_
    refine mGo.steps 1 (c' := (57, List.drop 8 mC57, [.ref a0], [.ref a0], μ)) rfl ?_
    refine gGet (is := List.drop 9 mC57) (v := .int (mI μ a0 2)) h1 rfl ?_
    refine mGo.steps 1 (c' := (57, List.drop 10 mC57, [.ref a0], [.int 1, .int (mI μ a0 2)], μ)) rfl ?_
    rcases mIte hr with ⟨h3, hr⟩ | ⟨h3, hr⟩
    · refine gBrT (p := ¬ (mI μ a0 2) = 1) (y := 57) (is := List.drop 11 mC57) (L := [.ref a0]) (st := []) (μ := μ) (t := 28) rfl h3 ?_
      exact t57_14 a0 μ (.ref a0) rfl hr hC
    · refine gBrF (p := ¬ (mI μ a0 2) = 1) (y := 57) (is := List.drop 11 mC57) (L := [.ref a0]) (st := []) (μ := μ) (t := 28) rfl h3 ?_
      refine mGo.steps 2 (c' := (57, List.drop 13 mC57, [.ref a0], [.int 0, .ref a0], μ)) rfl ?_
      replace hr := mBs hr
      refine gPut (is := List.drop 14 mC57) (μ' := mUI μ a0 2 0) h1 rfl ?_
      let μ2 : mM := mUI μ a0 2 0
      exact t57_14 a0 μ2 (.ref a0) rfl hr hC
  · refine gBrF (p := ¬ (mI μ a0 2) = 2) (y := 57) (is := List.drop 4 mC57) (L := [.ref a0]) (st := []) (μ := μ) (t := 15) rfl h6 ?_
    refine mGo.steps 1 (c' := (57, List.drop 5 mC57, [.ref a0], [.ref a0], μ)) rfl ?_
    obtain ⟨q4, h5, hr⟩ := mBi hr
    refine gCall (z := 56) (n := 0) (f := 0) (kind := 1) (a := a0) (As := []) (y := 57) (is := List.drop 6 mC57) (L := [.ref a0]) (rest := []) (μ := μ) rfl (by decide) (by decide) ⟨rfl, rfl⟩ rfl h1 (Nat.le_of_ble_eq_true rfl) (Nat.le_of_ble_eq_true rfl) (t56 h5) ?_
    refine mGo.steps 1 (c' := (57, List.drop 14 mC57, [.ref a0], [], q4)) rfl ?_
    exact t57_14 a0 q4 (.ref a0) rfl hr hC

/-! 49: TunnelFabric$Fabric.rousePath(I)V -/
def s49L4 (p0 : Nat) (s : Int32 × Int32 × mM) : Option ((Int32 × Int32 × mM) ⊕ ((mM) ⊕ mM)) :=
  if 4 ≤ s.2.1 then (some (.inr (.inl s.2.2))) else (if s.1 = 0 then (some (.inr (.inl s.2.2))) else (if (mS s.2.2 p0).1 = 1 then (s18 s.2.2 p0 s.1).bind fun q2 => if (mS s.2.2 q2).1 = 4 then if (mS s.2.2 (mP s.2.2 q2 6)).1 = 2 then (s57 s.2.2 (mP s.2.2 q2 6)).bind fun q6 => if (mS q6 p0).1 = 1 then (s18 q6 p0 s.1).bind fun q9 => if (mS q6 q9).1 = 4 then some (.inl (mI q6 q9 3, s.2.1 + 1, q6)) else none else none else none else none else none))
set_option maxRecDepth 20000 in
theorem t49L4 (p0 : Nat) {r : Option Value × mM} (s : Int32 × Int32 × mM) (o : ((Int32 × Int32 × mM) ⊕ ((mM) ⊕ mM))) (hr : s49L4 p0 s = some o) (hC : Sum.elim (fun s' : Int32 × Int32 × mM => ∀ (w1 : Value) (hw1 : mNotL w1 = true), mGo mG (49, List.drop 4 mC49, [.ref p0, w1, .int s'.1, .int s'.2.1], [], s'.2.2) r) (Sum.elim (fun x : mM => ∀ (w0 : Value) (hw0 : mNotL w0 = true) (w1 : Value) (hw1 : mNotL w1 = true) (w2 : Value) (hw2 : mNotL w2 = true) (w3 : Value) (hw3 : mNotL w3 = true), mGo mG (49, List.drop 21 mC49, [w0, w1, w2, w3], [], x) r) (fun y : mM => r = (none, y))) o) : ∀ (w1 : Value) (hw1 : mNotL w1 = true), mGo mG (49, List.drop 4 mC49, [.ref p0, w1, .int s.1, .int s.2.1], [], s.2.2) r := by
  intro w1 hw1
  unfold s49L4 at hr
  refine mGo.steps 2 (c' := (49, List.drop 6 mC49, [.ref p0, w1, .int s.1, .int s.2.1], [.int 4, .int s.2.1], s.2.2)) rfl ?_
  rcases mIte hr with ⟨h13, hr⟩ | ⟨h13, hr⟩
  · refine gBrT (p := 4 ≤ s.2.1) (y := 49) (is := List.drop 7 mC49) (L := [.ref p0, w1, .int s.1, .int s.2.1]) (st := []) (μ := s.2.2) (t := 39) rfl h13 ?_
    obtain rfl := Option.some.inj hr
    exact hC (.ref p0) rfl w1 hw1 (.int s.1) rfl (.int s.2.1) rfl
  · refine gBrF (p := 4 ≤ s.2.1) (y := 49) (is := List.drop 7 mC49) (L := [.ref p0, w1, .int s.1, .int s.2.1]) (st := []) (μ := s.2.2) (t := 39) rfl h13 ?_
    refine mGo.steps 1 (c' := (49, List.drop 8 mC49, [.ref p0, w1, .int s.1, .int s.2.1], [.int s.1], s.2.2)) rfl ?_
    rcases mIte hr with ⟨h12, hr⟩ | ⟨h12, hr⟩
    · refine gBrT (p := s.1 = 0) (y := 49) (is := List.drop 9 mC49) (L := [.ref p0, w1, .int s.1, .int s.2.1]) (st := []) (μ := s.2.2) (t := 39) rfl h12 ?_
      obtain rfl := Option.some.inj hr
      exact hC (.ref p0) rfl w1 hw1 (.int s.1) rfl (.int s.2.1) rfl
    · refine gBrF (p := s.1 = 0) (y := 49) (is := List.drop 9 mC49) (L := [.ref p0, w1, .int s.1, .int s.2.1]) (st := []) (μ := s.2.2) (t := 39) rfl h12 ?_
      refine mGo.steps 2 (c' := (49, List.drop 11 mC49, [.ref p0, w1, .int s.1, .int s.2.1], [.int s.1, .ref p0], s.2.2)) rfl ?_
      obtain ⟨h1, hr⟩ := mIf hr
      obtain ⟨q2, h3, hr⟩ := mBi hr
      refine gCall (z := 18) (n := 1) (f := 0) (kind := 1) (a := p0) (As := [.int s.1]) (y := 49) (is := List.drop 12 mC49) (L := [.ref p0, w1, .int s.1, .int s.2.1]) (rest := []) (μ := s.2.2) rfl (by decide) (by decide) ⟨rfl, rfl⟩ rfl h1 (Nat.le_of_ble_eq_true rfl) (Nat.le_of_ble_eq_true rfl) (t18 h3) ?_
      obtain ⟨h4, hr⟩ := mIf hr
      refine gGet (is := List.drop 13 mC49) (v := .ref (mP s.2.2 q2 6)) h4 rfl ?_
      obtain ⟨h5, hr⟩ := mIf hr
      obtain ⟨q6, h7, hr⟩ := mBi hr
      refine gCall (z := 57) (n := 0) (f := 0) (kind := 1) (a := (mP s.2.2 q2 6)) (As := []) (y := 49) (is := List.drop 14 mC49) (L := [.ref p0, w1, .int s.1, .int s.2.1]) (rest := []) (μ := s.2.2) rfl (by decide) (by decide) ⟨rfl, rfl⟩ rfl h5 (Nat.le_of_ble_eq_true rfl) (Nat.le_of_ble_eq_true rfl) (t57 h7) ?_
      refine mGo.steps 2 (c' := (49, List.drop 16 mC49, [.ref p0, w1, .int s.1, .int s.2.1], [.int s.1, .ref p0], q6)) rfl ?_
      obtain ⟨h8, hr⟩ := mIf hr
      obtain ⟨q9, h10, hr⟩ := mBi hr
      refine gCall (z := 18) (n := 1) (f := 0) (kind := 1) (a := p0) (As := [.int s.1]) (y := 49) (is := List.drop 17 mC49) (L := [.ref p0, w1, .int s.1, .int s.2.1]) (rest := []) (μ := q6) rfl (by decide) (by decide) ⟨rfl, rfl⟩ rfl h8 (Nat.le_of_ble_eq_true rfl) (Nat.le_of_ble_eq_true rfl) (t18 h10) ?_
      obtain ⟨h11, hr⟩ := mIf hr
      refine gGet (is := List.drop 18 mC49) (v := .int (mI q6 q9 3)) h11 rfl ?_
      refine gSt1 (L := [.ref p0, w1, .int s.1, .int s.2.1]) (q := 2) (w := .int (mI q6 q9 3)) (is := List.drop 19 mC49) (st := []) (μ := q6) rfl (Nat.le_of_ble_eq_true rfl) hw1 ?_
      refine mGo.steps 2 (c' := (49, List.drop 4 mC49, [.ref p0, w1, .int (mI q6 q9 3), .int (s.2.1 + 1)], [], q6)) rfl ?_
      obtain rfl := Option.some.inj hr
      exact hC w1 hw1
theorem t49L4l (p0 : Nat) {r : Option Value × mM} (n : Nat) (s : Int32 × Int32 × mM) (o : (mM) ⊕ mM) (hr : mLoop (s49L4 p0) n s = some o) (hC : Sum.elim (fun x : mM => ∀ (w0 : Value) (hw0 : mNotL w0 = true) (w1 : Value) (hw1 : mNotL w1 = true) (w2 : Value) (hw2 : mNotL w2 = true) (w3 : Value) (hw3 : mNotL w3 = true), mGo mG (49, List.drop 21 mC49, [w0, w1, w2, w3], [], x) r) (fun y : mM => r = (none, y)) o) : ∀ (w1 : Value) (hw1 : mNotL w1 = true), mGo mG (49, List.drop 4 mC49, [.ref p0, w1, .int s.1, .int s.2.1], [], s.2.2) r :=
  mLoop_go (Hd := (fun s' : Int32 × Int32 × mM => ∀ (w1 : Value) (hw1 : mNotL w1 = true), mGo mG (49, List.drop 4 mC49, [.ref p0, w1, .int s'.1, .int s'.2.1], [], s'.2.2) r)) (fun s o hb hC => t49L4 p0 s o hb hC) n s o hr hC
def s49_21 (a0 : Nat) (a1 : Int32) (μ : mM) : Option mM :=
  some μ
set_option maxRecDepth 20000 in
theorem t49_21 (a0 : Nat) (a1 : Int32) (μ : mM) (w0 : Value) (hw0 : mNotL w0 = true) (w1 : Value) (hw1 : mNotL w1 = true) (w2 : Value) (hw2 : mNotL w2 = true) (w3 : Value) (hw3 : mNotL w3 = true) {o : mM} {r : Option Value × mM} (hr : s49_21 a0 a1 μ = some o) (hC : r = (none, o)) : mGo mG (49, List.drop 21 mC49, [w0, w1, w2, w3], [], μ) r := by
  unfold s49_21 at hr
  obtain rfl := Option.some.inj hr
  rw [show r = _ from hC]
  exact gVret rfl
def s49 (μ : mM) (a0 : Nat) (a1 : Int32) : Option mM :=
  (mLoop (s49L4 a0) 1000 (a1, 0, μ)).bind fun o14 => Sum.elim (fun x15 => s49_21 a0 a1 x15) (fun y16 => some y16) o14
set_option maxRecDepth 20000 in
theorem t49 {μ : mM} {a0 : Nat} {a1 : Int32} {o : mM} (hr : s49 μ a0 a1 = some o) : mEv mG 49 [.ref a0, .int a1] μ (none) (o) := by
  obtain ⟨r, hC⟩ : ∃ r : Option Value × mM, r = (none, o) := ⟨_, rfl⟩
  show mGo mG (49, List.drop 0 mC49, [.ref a0, .int a1, .retAddr 0, .retAddr 0], [], μ) (none, o)
  rw [← hC]
  unfold s49 at hr
  refine mGo.steps 4 (c' := (49, List.drop 4 mC49, [.ref a0, .int a1, .int a1, .int 0], [], μ)) rfl ?_
  obtain ⟨o14, h17, hr⟩ := mBi hr
  refine t49L4l a0 1000 (a1, 0, μ) o14 h17 ?_ (.int a1) rfl
  cases o14 with
  | inl x15 =>
    show ∀ (w0 : Value) (hw0 : mNotL w0 = true) (w1 : Value) (hw1 : mNotL w1 = true) (w2 : Value) (hw2 : mNotL w2 = true) (w3 : Value) (hw3 : mNotL w3 = true), mGo mG (49, List.drop 21 mC49, [w0, w1, w2, w3], [], x15) r
    intro w0 hw0 w1 hw1 w2 hw2 w3 hw3
    replace hr : (_) = some _ := hr
    exact t49_21 a0 a1 x15 w0 hw0 w1 hw1 w2 hw2 w3 hw3 hr hC
  | inr y16 =>
    obtain rfl := Option.some.inj hr
    exact hC

/-! 87: TunnelFabric$Way.empty()V -/
def s87 (μ : mM) (a0 : Nat) : Option mM :=
  if (mS μ a0).1 = 7 then (some (mUI μ a0 0 0)).bind fun μ2 => (some (mUI μ2 a0 1 0)).bind fun μ3 => (some (mUI μ3 a0 2 0)).bind fun μ4 => (some (mUI μ4 a0 3 0)).bind fun μ5 => some μ5 else none
set_option maxRecDepth 20000 in
theorem t87 {μ : mM} {a0 : Nat} {o : mM} (hr : s87 μ a0 = some o) : mEv mG 87 [.ref a0] μ (none) (o) := by
  obtain ⟨r, hC⟩ : ∃ r : Option Value × mM, r = (none, o) := ⟨_, rfl⟩
  show mGo mG (87, List.drop 0 mC87, [.ref a0], [], μ) (none, o)
  rw [← hC]
  unfold s87 at hr
  refine mGo.steps 2 (c' := (87, List.drop 2 mC87, [.ref a0], [.int 0, .ref a0], μ)) rfl ?_
  obtain ⟨h1, hr⟩ := mIf hr
  replace hr := mBs hr
  refine gPut (is := List.drop 3 mC87) (μ' := mUI μ a0 0 0) h1 (gZ (by decide)) ?_
  let μ2 : mM := mUI μ a0 0 0
  refine mGo.steps 2 (c' := (87, List.drop 5 mC87, [.ref a0], [.int 0, .ref a0], μ2)) rfl ?_
  replace hr := mBs hr
  refine gPut (is := List.drop 6 mC87) (μ' := mUI μ2 a0 1 0) h1 rfl ?_
  let μ3 : mM := mUI μ2 a0 1 0
  refine mGo.steps 2 (c' := (87, List.drop 8 mC87, [.ref a0], [.int 0, .ref a0], μ3)) rfl ?_
  replace hr := mBs hr
  refine gPut (is := List.drop 9 mC87) (μ' := mUI μ3 a0 2 0) h1 rfl ?_
  let μ4 : mM := mUI μ3 a0 2 0
  refine mGo.steps 2 (c' := (87, List.drop 11 mC87, [.ref a0], [.int 0, .ref a0], μ4)) rfl ?_
  replace hr := mBs hr
  refine gPut (is := List.drop 12 mC87) (μ' := mUI μ4 a0 3 0) h1 rfl ?_
  let μ5 : mM := mUI μ4 a0 3 0
  obtain rfl := Option.some.inj hr
  rw [show r = _ from hC]
  exact gVret rfl

/-! 43: TunnelFabric$Fabric.addTunnel(III)I -/
def s43_8 (a0 : Nat) (a1 : Int32) (a2 : Int32) (a3 : Int32) (μ : mM) : Option (Int32 × mM) :=
  some ((-5), μ)
set_option maxRecDepth 20000 in
theorem t43_8 (a0 : Nat) (a1 : Int32) (a2 : Int32) (a3 : Int32) (μ : mM) (w0 : Value) (hw0 : mNotL w0 = true) (w1 : Value) (hw1 : mNotL w1 = true) (w2 : Value) (hw2 : mNotL w2 = true) (w3 : Value) (hw3 : mNotL w3 = true) (w4 : Value) (hw4 : mNotL w4 = true) (w5 : Value) (hw5 : mNotL w5 = true) {o : (Int32 × mM)} {r : Option Value × mM} (hr : s43_8 a0 a1 a2 a3 μ = some o) (hC : r = (some (.int o.1), o.2)) : mGo mG (43, List.drop 8 mC43, [w0, w1, w2, w3, w4, w5], [], μ) r := by
  unfold s43_8 at hr
  refine mGo.steps 1 (c' := (43, List.drop 9 mC43, [w0, w1, w2, w3, w4, w5], [.int (-5)], μ)) rfl ?_
  obtain rfl := Option.some.inj hr
  rw [show r = _ from hC]
  exact gIret rfl
def s43_57 (a0 : Nat) (a1 : Int32) (a2 : Int32) (a3 : Int32) (μ : mM) (v4 : Int32) (v5 : Nat) : Option (Int32 × mM) :=
  if (mS μ v5).1 = 6 then (some (mUI μ v5 0 1)).bind fun μ28 => if (mS μ28 a0).1 = 1 then (some (mUI μ28 a0 6 ((mI μ28 a0 6) + 1))).bind fun μ30 => some (v4, μ30) else none else none
set_option maxRecDepth 20000 in
theorem t43_57 (a0 : Nat) (a1 : Int32) (a2 : Int32) (a3 : Int32) (μ : mM) (v4 : Int32) (v5 : Nat) (w1 : Value) (hw1 : mNotL w1 = true) (w2 : Value) (hw2 : mNotL w2 = true) (w3 : Value) (hw3 : mNotL w3 = true) {o : (Int32 × mM)} {r : Option Value × mM} (hr : s43_57 a0 a1 a2 a3 μ v4 v5 = some o) (hC : r = (some (.int o.1), o.2)) : mGo mG (43, List.drop 57 mC43, [.ref a0, w1, w2, w3, .int v4, .ref v5], [], μ) r := by
  unfold s43_57 at hr
  refine mGo.steps 2 (c' := (43, List.drop 59 mC43, [.ref a0, w1, w2, w3, .int v4, .ref v5], [.int 1, .ref v5], μ)) rfl ?_
  obtain ⟨h27, hr⟩ := mIf hr
  replace hr := mBs hr
  refine gPut (is := List.drop 60 mC43) (μ' := mUI μ v5 0 1) h27 (gZ (by decide)) ?_
  let μ28 : mM := mUI μ v5 0 1
  refine mGo.steps 2 (c' := (43, List.drop 62 mC43, [.ref a0, w1, w2, w3, .int v4, .ref v5], [.ref a0, .ref a0], μ28)) rfl ?_
  obtain ⟨h29, hr⟩ := mIf hr
  refine gGet (is := List.drop 63 mC43) (v := .int (mI μ28 a0 6)) h29 rfl ?_
  refine mGo.steps 2 (c' := (43, List.drop 65 mC43, [.ref a0, w1, w2, w3, .int v4, .ref v5], [.int ((mI μ28 a0 6) + 1), .ref a0], μ28)) rfl ?_
  replace hr := mBs hr
  refine gPut (is := List.drop 66 mC43) (μ' := mUI μ28 a0 6 ((mI μ28 a0 6) + 1)) h29 rfl ?_
  let μ30 : mM := mUI μ28 a0 6 ((mI μ28 a0 6) + 1)
  refine mGo.steps 1 (c' := (43, List.drop 67 mC43, [.ref a0, w1, w2, w3, .int v4, .ref v5], [.int v4], μ30)) rfl ?_
  obtain rfl := Option.some.inj hr
  rw [show r = _ from hC]
  exact gIret rfl
def s43_34 (a0 : Nat) (a1 : Int32) (a2 : Int32) (a3 : Int32) (μ : mM) (v4 : Int32) (v5 : Nat) (t0 : Int32) (t1 : Nat) : Option (Int32 × mM) :=
  if (mS μ t1).1 = 6 then (some (mUI μ t1 4 t0)).bind fun μ10 => if (mS μ10 a0).1 = 1 then if (mS μ10 v5).1 = 6 then (some (mUI μ10 v5 5 (mI μ10 a0 6))).bind fun μ13 => if (mS μ13 (mP μ13 v5 6)).1 = 7 then (s87 μ13 (mP μ13 v5 6)).bind fun q15 => if (mS q15 v5).1 = 6 then if (mS q15 (mP q15 v5 7)).1 = 7 then (s87 q15 (mP q15 v5 7)).bind fun q19 => if (mS q19 a0).1 = 1 then (s45 q19 a0 v5).bind fun q22 => if ¬ a1 = 0 then (if (mS q22 a0).1 = 1 then (s46 q22 a0 v5).bind fun q25 => s43_57 a0 a1 a2 a3 q25 v4 v5 else none) else (if (mS q22 a0).1 = 1 then (s49 q22 a0 a2).bind fun q32 => s43_57 a0 a1 a2 a3 q32 v4 v5 else none) else none else none else none else none else none else none else none
set_option maxRecDepth 20000 in
theorem t43_34 (a0 : Nat) (a1 : Int32) (a2 : Int32) (a3 : Int32) (μ : mM) (v4 : Int32) (v5 : Nat) (t0 : Int32) (t1 : Nat) (w3 : Value) (hw3 : mNotL w3 = true) {o : (Int32 × mM)} {r : Option Value × mM} (hr : s43_34 a0 a1 a2 a3 μ v4 v5 t0 t1 = some o) (hC : r = (some (.int o.1), o.2)) : mGo mG (43, List.drop 34 mC43, [.ref a0, .int a1, .int a2, w3, .int v4, .ref v5], [.int t0, .ref t1], μ) r := by
  unfold s43_34 at hr
  obtain ⟨h9, hr⟩ := mIf hr
  replace hr := mBs hr
  refine gPut (is := List.drop 35 mC43) (μ' := mUI μ t1 4 t0) h9 rfl ?_
  let μ10 : mM := mUI μ t1 4 t0
  refine mGo.steps 2 (c' := (43, List.drop 37 mC43, [.ref a0, .int a1, .int a2, w3, .int v4, .ref v5], [.ref a0, .ref v5], μ10)) rfl ?_
  obtain ⟨h11, hr⟩ := mIf hr
  refine gGet (is := List.drop 38 mC43) (v := .int (mI μ10 a0 6)) h11 rfl ?_
  obtain ⟨h12, hr⟩ := mIf hr
  replace hr := mBs hr
  refine gPut (is := List.drop 39 mC43) (μ' := mUI μ10 v5 5 (mI μ10 a0 6)) h12 rfl ?_
  let μ13 : mM := mUI μ10 v5 5 (mI μ10 a0 6)
  refine mGo.steps 1 (c' := (43, List.drop 40 mC43, [.ref a0, .int a1, .int a2, w3, .int v4, .ref v5], [.ref v5], μ13)) rfl ?_
  refine gGet (is := List.drop 41 mC43) (v := .ref (mP μ13 v5 6)) h12 rfl ?_
  obtain ⟨h14, hr⟩ := mIf hr
  obtain ⟨q15, h16, hr⟩ := mBi hr
  refine gCall (z := 87) (n := 0) (f := 0) (kind := 1) (a := (mP μ13 v5 6)) (As := []) (y := 43) (is := List.drop 42 mC43) (L := [.ref a0, .int a1, .int a2, w3, .int v4, .ref v5]) (rest := []) (μ := μ13) rfl (by decide) (by decide) ⟨rfl, rfl⟩ rfl h14 (Nat.le_of_ble_eq_true rfl) (Nat.le_of_ble_eq_true rfl) (t87 h16) ?_
  refine mGo.steps 1 (c' := (43, List.drop 43 mC43, [.ref a0, .int a1, .int a2, w3, .int v4, .ref v5], [.ref v5], q15)) rfl ?_
  obtain ⟨h17, hr⟩ := mIf hr
  refine gGet (is := List.drop 44 mC43) (v := .ref (mP q15 v5 7)) h17 rfl ?_
  obtain ⟨h18, hr⟩ := mIf hr
  obtain ⟨q19, h20, hr⟩ := mBi hr
  refine gCall (z := 87) (n := 0) (f := 0) (kind := 1) (a := (mP q15 v5 7)) (As := []) (y := 43) (is := List.drop 45 mC43) (L := [.ref a0, .int a1, .int a2, w3, .int v4, .ref v5]) (rest := []) (μ := q15) rfl (by decide) (by decide) ⟨rfl, rfl⟩ rfl h18 (Nat.le_of_ble_eq_true rfl) (Nat.le_of_ble_eq_true rfl) (t87 h20) ?_
  refine mGo.steps 2 (c' := (43, List.drop 47 mC43, [.ref a0, .int a1, .int a2, w3, .int v4, .ref v5], [.ref v5, .ref a0], q19)) rfl ?_
  obtain ⟨h21, hr⟩ := mIf hr
  obtain ⟨q22, h23, hr⟩ := mBi hr
  refine gCall (z := 45) (n := 1) (f := 0) (kind := 1) (a := a0) (As := [.ref v5]) (y := 43) (is := List.drop 48 mC43) (L := [.ref a0, .int a1, .int a2, w3, .int v4, .ref v5]) (rest := []) (μ := q19) rfl (by decide) (by decide) ⟨rfl, rfl⟩ rfl h21 (Nat.le_of_ble_eq_true rfl) (Nat.le_of_ble_eq_true rfl) (t45 h23) ?_
  refine mGo.steps 1 (c' := (43, List.drop 49 mC43, [.ref a0, .int a1, .int a2, w3, .int v4, .ref v5], [.int a1], q22)) rfl ?_
  rcases mIte hr with ⟨h34, hr⟩ | ⟨h34, hr⟩
  · refine gBrT (p := ¬ a1 = 0) (y := 43) (is := List.drop 50 mC43) (L := [.ref a0, .int a1, .int a2, w3, .int v4, .ref v5]) (st := []) (μ := q22) (t := 113) rfl h34 ?_
    refine mGo.steps 2 (c' := (43, List.drop 56 mC43, [.ref a0, .int a1, .int a2, w3, .int v4, .ref v5], [.ref v5, .ref a0], q22)) rfl ?_
    obtain ⟨h24, hr⟩ := mIf hr
    obtain ⟨q25, h26, hr⟩ := mBi hr
    refine gCall (z := 46) (n := 1) (f := 0) (kind := 1) (a := a0) (As := [.ref v5]) (y := 43) (is := List.drop 57 mC43) (L := [.ref a0, .int a1, .int a2, w3, .int v4, .ref v5]) (rest := []) (μ := q22) rfl (by decide) (by decide) ⟨rfl, rfl⟩ rfl h24 (Nat.le_of_ble_eq_true rfl) (Nat.le_of_ble_eq_true rfl) (t46 h26) ?_
    exact t43_57 a0 a1 a2 a3 q25 v4 v5 (.int a1) rfl (.int a2) rfl w3 hw3 hr hC
  · refine gBrF (p := ¬ a1 = 0) (y := 43) (is := List.drop 50 mC43) (L := [.ref a0, .int a1, .int a2, w3, .int v4, .ref v5]) (st := []) (μ := q22) (t := 113) rfl h34 ?_
    refine mGo.steps 2 (c' := (43, List.drop 52 mC43, [.ref a0, .int a1, .int a2, w3, .int v4, .ref v5], [.int a2, .ref a0], q22)) rfl ?_
    obtain ⟨h31, hr⟩ := mIf hr
    obtain ⟨q32, h33, hr⟩ := mBi hr
    refine gCall (z := 49) (n := 1) (f := 0) (kind := 1) (a := a0) (As := [.int a2]) (y := 43) (is := List.drop 53 mC43) (L := [.ref a0, .int a1, .int a2, w3, .int v4, .ref v5]) (rest := []) (μ := q22) rfl (by decide) (by decide) ⟨rfl, rfl⟩ rfl h31 (Nat.le_of_ble_eq_true rfl) (Nat.le_of_ble_eq_true rfl) (t49 h33) ?_
    refine mGo.steps 1 (c' := (43, List.drop 57 mC43, [.ref a0, .int a1, .int a2, w3, .int v4, .ref v5], [], q32)) rfl ?_
    exact t43_57 a0 a1 a2 a3 q32 v4 v5 (.int a1) rfl (.int a2) rfl w3 hw3 hr hC
def s43 (μ : mM) (a0 : Nat) (a1 : Int32) (a2 : Int32) (a3 : Int32) : Option (Int32 × mM) :=
  if (mS μ a0).1 = 1 then (s44 μ a0).bind fun q2 => if q2 < 0 then (s43_8 a0 a1 a2 a3 μ) else (if q2 < 10 then (if (mS μ (mP μ a0 1)).1 = 20 + 6 ∧ mInb q2 (mS μ (mP μ a0 1)).2 then if (mS μ (mP μ (mP μ a0 1) (Int32.toNatClampNeg q2))).1 = 6 then (some (mUI μ (mP μ (mP μ a0 1) (Int32.toNatClampNeg q2)) 1 a1)).bind fun μ6 => (some (mUI μ6 (mP μ (mP μ a0 1) (Int32.toNatClampNeg q2)) 2 a2)).bind fun μ7 => (some (mUI μ7 (mP μ (mP μ a0 1) (Int32.toNatClampNeg q2)) 3 a3)).bind fun μ8 => if ¬ a1 = 0 then (s43_34 a0 a1 a2 a3 μ8 q2 (mP μ (mP μ a0 1) (Int32.toNatClampNeg q2)) 0 (mP μ (mP μ a0 1) (Int32.toNatClampNeg q2))) else ((s31 μ8 a0 a2).bind fun q35 => s43_34 a0 a1 a2 a3 μ8 q2 (mP μ (mP μ a0 1) (Int32.toNatClampNeg q2)) (mMin a3 q35) (mP μ (mP μ a0 1) (Int32.toNatClampNeg q2))) else none else none) else (s43_8 a0 a1 a2 a3 μ)) else none
set_option maxRecDepth 20000 in
theorem t43 {μ : mM} {a0 : Nat} {a1 : Int32} {a2 : Int32} {a3 : Int32} {o : (Int32 × mM)} (hr : s43 μ a0 a1 a2 a3 = some o) : mEv mG 43 [.ref a0, .int a1, .int a2, .int a3] μ (some (.int o.1)) (o.2) := by
  obtain ⟨r, hC⟩ : ∃ r : Option Value × mM, r = (some (.int o.1), o.2) := ⟨_, rfl⟩
  show mGo mG (43, List.drop 0 mC43, [.ref a0, .int a1, .int a2, .int a3, .retAddr 0, .retAddr 0], [], μ) (some (.int o.1), o.2)
  rw [← hC]
  unfold s43 at hr
  refine mGo.steps 1 (c' := (43, List.drop 1 mC43, [.ref a0, .int a1, .int a2, .int a3, .retAddr 0, .retAddr 0], [.ref a0], μ)) rfl ?_
  obtain ⟨h1, hr⟩ := mIf hr
  obtain ⟨q2, h3, hr⟩ := mBi hr
  refine gCall (z := 44) (n := 0) (f := 0) (kind := 1) (a := a0) (As := []) (y := 43) (is := List.drop 2 mC43) (L := [.ref a0, .int a1, .int a2, .int a3, .retAddr 0, .retAddr 0]) (rest := []) (μ := μ) rfl (by decide) (by decide) ⟨rfl, rfl⟩ rfl h1 (Nat.le_of_ble_eq_true rfl) (Nat.le_of_ble_eq_true rfl) (t44 h3) ?_
  refine mGo.steps 2 (c' := (43, List.drop 4 mC43, [.ref a0, .int a1, .int a2, .int a3, .int q2, .retAddr 0], [.int q2], μ)) rfl ?_
  rcases mIte hr with ⟨h39, hr⟩ | ⟨h39, hr⟩
  · refine gBrT (p := q2 < 0) (y := 43) (is := List.drop 5 mC43) (L := [.ref a0, .int a1, .int a2, .int a3, .int q2, .retAddr 0]) (st := []) (μ := μ) (t := 18) rfl h39 ?_
    exact t43_8 a0 a1 a2 a3 μ (.ref a0) rfl (.int a1) rfl (.int a2) rfl (.int a3) rfl (.int q2) rfl (.retAddr 0) rfl hr hC
  · refine gBrF (p := q2 < 0) (y := 43) (is := List.drop 5 mC43) (L := [.ref a0, .int a1, .int a2, .int a3, .int q2, .retAddr 0]) (st := []) (μ := μ) (t := 18) rfl h39 ?_
    refine mGo.steps 2 (c' := (43, List.drop 7 mC43, [.ref a0, .int a1, .int a2, .int a3, .int q2, .retAddr 0], [.int 10, .int q2], μ)) rfl ?_
    rcases mIte hr with ⟨h38, hr⟩ | ⟨h38, hr⟩
    · refine gBrT (p := q2 < 10) (y := 43) (is := List.drop 8 mC43) (L := [.ref a0, .int a1, .int a2, .int a3, .int q2, .retAddr 0]) (st := []) (μ := μ) (t := 21) rfl h38 ?_
      refine mGo.steps 1 (c' := (43, List.drop 11 mC43, [.ref a0, .int a1, .int a2, .int a3, .int q2, .retAddr 0], [.ref a0], μ)) rfl ?_
      refine gGet (is := List.drop 12 mC43) (v := .ref (mP μ a0 1)) h1 rfl ?_
      refine mGo.steps 1 (c' := (43, List.drop 13 mC43, [.ref a0, .int a1, .int a2, .int a3, .int q2, .retAddr 0], [.int q2, .ref (mP μ a0 1)], μ)) rfl ?_
      obtain ⟨h4, hr⟩ := mIf hr
      refine gAald (is := List.drop 14 mC43) h4 ?_
      refine mGo.steps 3 (c' := (43, List.drop 17 mC43, [.ref a0, .int a1, .int a2, .int a3, .int q2, .ref (mP μ (mP μ a0 1) (Int32.toNatClampNeg q2))], [.int a1, .ref (mP μ (mP μ a0 1) (Int32.toNatClampNeg q2))], μ)) rfl ?_
      obtain ⟨h5, hr⟩ := mIf hr
      replace hr := mBs hr
      refine gPut (is := List.drop 18 mC43) (μ' := mUI μ (mP μ (mP μ a0 1) (Int32.toNatClampNeg q2)) 1 a1) h5 rfl ?_
      let μ6 : mM := mUI μ (mP μ (mP μ a0 1) (Int32.toNatClampNeg q2)) 1 a1
      refine mGo.steps 2 (c' := (43, List.drop 20 mC43, [.ref a0, .int a1, .int a2, .int a3, .int q2, .ref (mP μ (mP μ a0 1) (Int32.toNatClampNeg q2))], [.int a2, .ref (mP μ (mP μ a0 1) (Int32.toNatClampNeg q2))], μ6)) rfl ?_
      replace hr := mBs hr
      refine gPut (is := List.drop 21 mC43) (μ' := mUI μ6 (mP μ (mP μ a0 1) (Int32.toNatClampNeg q2)) 2 a2) h5 rfl ?_
      let μ7 : mM := mUI μ6 (mP μ (mP μ a0 1) (Int32.toNatClampNeg q2)) 2 a2
      refine mGo.steps 2 (c' := (43, List.drop 23 mC43, [.ref a0, .int a1, .int a2, .int a3, .int q2, .ref (mP μ (mP μ a0 1) (Int32.toNatClampNeg q2))], [.int a3, .ref (mP μ (mP μ a0 1) (Int32.toNatClampNeg q2))], μ7)) rfl ?_
      replace hr := mBs hr
      refine gPut (is := List.drop 24 mC43) (μ' := mUI μ7 (mP μ (mP μ a0 1) (Int32.toNatClampNeg q2)) 3 a3) h5 rfl ?_
      let μ8 : mM := mUI μ7 (mP μ (mP μ a0 1) (Int32.toNatClampNeg q2)) 3 a3
      refine mGo.steps 2 (c' := (43, List.drop 26 mC43, [.ref a0, .int a1, .int a2, .int a3, .int q2, .ref (mP μ (mP μ a0 1) (Int32.toNatClampNeg q2))], [.int a1, .ref (mP μ (mP μ a0 1) (Int32.toNatClampNeg q2))], μ8)) rfl ?_
      rcases mIte hr with ⟨h37, hr⟩ | ⟨h37, hr⟩
      · refine gBrT (p := ¬ a1 = 0) (y := 43) (is := List.drop 27 mC43) (L := [.ref a0, .int a1, .int a2, .int a3, .int q2, .ref (mP μ (mP μ a0 1) (Int32.toNatClampNeg q2))]) (st := [.ref (mP μ (mP μ a0 1) (Int32.toNatClampNeg q2))]) (μ := μ8) (t := 66) rfl h37 ?_
        refine mGo.steps 1 (c' := (43, List.drop 34 mC43, [.ref a0, .int a1, .int a2, .int a3, .int q2, .ref (mP μ (mP μ a0 1) (Int32.toNatClampNeg q2))], [.int 0, .ref (mP μ (mP μ a0 1) (Int32.toNatClampNeg q2))], μ8)) rfl ?_
        exact t43_34 a0 a1 a2 a3 μ8 q2 (mP μ (mP μ a0 1) (Int32.toNatClampNeg q2)) 0 (mP μ (mP μ a0 1) (Int32.toNatClampNeg q2)) (.int a3) rfl hr hC
      · refine gBrF (p := ¬ a1 = 0) (y := 43) (is := List.drop 27 mC43) (L := [.ref a0, .int a1, .int a2, .int a3, .int q2, .ref (mP μ (mP μ a0 1) (Int32.toNatClampNeg q2))]) (st := [.ref (mP μ (mP μ a0 1) (Int32.toNatClampNeg q2))]) (μ := μ8) (t := 66) rfl h37 ?_
        refine mGo.steps 3 (c' := (43, List.drop 30 mC43, [.ref a0, .int a1, .int a2, .int a3, .int q2, .ref (mP μ (mP μ a0 1) (Int32.toNatClampNeg q2))], [.int a2, .ref a0, .int a3, .ref (mP μ (mP μ a0 1) (Int32.toNatClampNeg q2))], μ8)) rfl ?_
        obtain ⟨q35, h36, hr⟩ := mBi hr
        refine gCall (z := 31) (n := 1) (f := 0) (kind := 1) (a := a0) (As := [.int a2]) (y := 43) (is := List.drop 31 mC43) (L := [.ref a0, .int a1, .int a2, .int a3, .int q2, .ref (mP μ (mP μ a0 1) (Int32.toNatClampNeg q2))]) (rest := [.int a3, .ref (mP μ (mP μ a0 1) (Int32.toNatClampNeg q2))]) (μ := μ8) rfl (by decide) (by decide) ⟨rfl, rfl⟩ rfl h1 (Nat.le_of_ble_eq_true rfl) (Nat.le_of_ble_eq_true rfl) (t31 h36) ?_
        refine mGo.steps 2 (c' := (43, List.drop 34 mC43, [.ref a0, .int a1, .int a2, .int a3, .int q2, .ref (mP μ (mP μ a0 1) (Int32.toNatClampNeg q2))], [.int (mMin a3 q35), .ref (mP μ (mP μ a0 1) (Int32.toNatClampNeg q2))], μ8)) rfl ?_
        exact t43_34 a0 a1 a2 a3 μ8 q2 (mP μ (mP μ a0 1) (Int32.toNatClampNeg q2)) (mMin a3 q35) (mP μ (mP μ a0 1) (Int32.toNatClampNeg q2)) (.int a3) rfl hr hC
    · refine gBrF (p := q2 < 10) (y := 43) (is := List.drop 8 mC43) (L := [.ref a0, .int a1, .int a2, .int a3, .int q2, .retAddr 0]) (st := []) (μ := μ) (t := 21) rfl h38 ?_
      exact t43_8 a0 a1 a2 a3 μ (.ref a0) rfl (.int a1) rfl (.int a2) rfl (.int a3) rfl (.int q2) rfl (.retAddr 0) rfl hr hC

/-! 92: TunnelFabric$Way.cellsInBuffers()I -/
def s92L4 (μ : mM) (p0 : Nat) (s : Int32 × Int32) : Option ((Int32 × Int32) ⊕ ((Int32) ⊕ Int32)) :=
  if (mS μ p0).1 = 7 then if (mI μ p0 1) ≤ s.2 then (some (.inr (.inl s.1))) else (if (mS μ (mP μ p0 7)).1 = 10 ∧ mInb s.2 (mS μ (mP μ p0 7)).2 then some (.inl (s.1 + (mI μ (mP μ p0 7) (Int32.toNatClampNeg s.2)), s.2 + 1)) else none) else none
set_option maxRecDepth 20000 in
theorem t92L4 (μ : mM) (p0 : Nat) {r : Option Value × mM} (s : Int32 × Int32) (o : ((Int32 × Int32) ⊕ ((Int32) ⊕ Int32))) (hr : s92L4 μ p0 s = some o) (hC : Sum.elim (fun s' : Int32 × Int32 => mGo mG (92, List.drop 4 mC92, [.ref p0, .int s'.1, .int s'.2], [], μ) r) (Sum.elim (fun x : Int32 => ∀ (w0 : Value) (hw0 : mNotL w0 = true) (w2 : Value) (hw2 : mNotL w2 = true), mGo mG (92, List.drop 17 mC92, [w0, .int x, w2], [], μ) r) (fun y : Int32 => r = (some (.int y), μ))) o) : mGo mG (92, List.drop 4 mC92, [.ref p0, .int s.1, .int s.2], [], μ) r := by
  unfold s92L4 at hr
  refine mGo.steps 2 (c' := (92, List.drop 6 mC92, [.ref p0, .int s.1, .int s.2], [.ref p0, .int s.2], μ)) rfl ?_
  obtain ⟨h1, hr⟩ := mIf hr
  refine gGet (is := List.drop 7 mC92) (v := .int (mI μ p0 1)) h1 rfl ?_
  rcases mIte hr with ⟨h3, hr⟩ | ⟨h3, hr⟩
  · refine gBrT (p := (mI μ p0 1) ≤ s.2) (y := 92) (is := List.drop 8 mC92) (L := [.ref p0, .int s.1, .int s.2]) (st := []) (μ := μ) (t := 27) rfl h3 ?_
    obtain rfl := Option.some.inj hr
    exact hC (.ref p0) rfl (.int s.2) rfl
  · refine gBrF (p := (mI μ p0 1) ≤ s.2) (y := 92) (is := List.drop 8 mC92) (L := [.ref p0, .int s.1, .int s.2]) (st := []) (μ := μ) (t := 27) rfl h3 ?_
    refine mGo.steps 2 (c' := (92, List.drop 10 mC92, [.ref p0, .int s.1, .int s.2], [.ref p0, .int s.1], μ)) rfl ?_
    refine gGet (is := List.drop 11 mC92) (v := .ref (mP μ p0 7)) h1 rfl ?_
    refine mGo.steps 1 (c' := (92, List.drop 12 mC92, [.ref p0, .int s.1, .int s.2], [.int s.2, .ref (mP μ p0 7), .int s.1], μ)) rfl ?_
    obtain ⟨h2, hr⟩ := mIf hr
    refine gIald (is := List.drop 13 mC92) h2 ?_
    refine mGo.steps 4 (c' := (92, List.drop 4 mC92, [.ref p0, .int (s.1 + (mI μ (mP μ p0 7) (Int32.toNatClampNeg s.2))), .int (s.2 + 1)], [], μ)) rfl ?_
    obtain rfl := Option.some.inj hr
    exact hC
theorem t92L4l (μ : mM) (p0 : Nat) {r : Option Value × mM} (n : Nat) (s : Int32 × Int32) (o : (Int32) ⊕ Int32) (hr : mLoop (s92L4 μ p0) n s = some o) (hC : Sum.elim (fun x : Int32 => ∀ (w0 : Value) (hw0 : mNotL w0 = true) (w2 : Value) (hw2 : mNotL w2 = true), mGo mG (92, List.drop 17 mC92, [w0, .int x, w2], [], μ) r) (fun y : Int32 => r = (some (.int y), μ)) o) : mGo mG (92, List.drop 4 mC92, [.ref p0, .int s.1, .int s.2], [], μ) r :=
  mLoop_go (Hd := (fun s' : Int32 × Int32 => mGo mG (92, List.drop 4 mC92, [.ref p0, .int s'.1, .int s'.2], [], μ) r)) (fun s o hb hC => t92L4 μ p0 s o hb hC) n s o hr hC
def s92 (μ : mM) (a0 : Nat) : Option Int32 :=
  (mLoop (s92L4 μ a0) 1000 (0, 0)).bind fun o4 => Sum.elim (fun x5 => some x5) (fun y6 => some y6) o4
set_option maxRecDepth 20000 in
theorem t92 {μ : mM} {a0 : Nat} {o : Int32} (hr : s92 μ a0 = some o) : mEv mG 92 [.ref a0] μ (some (.int o)) (μ) := by
  obtain ⟨r, hC⟩ : ∃ r : Option Value × mM, r = (some (.int o), μ) := ⟨_, rfl⟩
  show mGo mG (92, List.drop 0 mC92, [.ref a0, .retAddr 0, .retAddr 0], [], μ) (some (.int o), μ)
  rw [← hC]
  unfold s92 at hr
  refine mGo.steps 4 (c' := (92, List.drop 4 mC92, [.ref a0, .int 0, .int 0], [], μ)) rfl ?_
  obtain ⟨o4, h7, hr⟩ := mBi hr
  refine t92L4l μ a0 1000 (0, 0) o4 h7 ?_ 
  cases o4 with
  | inl x5 =>
    show ∀ (w0 : Value) (hw0 : mNotL w0 = true) (w2 : Value) (hw2 : mNotL w2 = true), mGo mG (92, List.drop 17 mC92, [w0, .int x5, w2], [], μ) r
    intro w0 hw0 w2 hw2
    replace hr : (_) = some _ := hr
    refine mGo.steps 1 (c' := (92, List.drop 18 mC92, [w0, .int x5, w2], [.int x5], μ)) rfl ?_
    obtain rfl := Option.some.inj hr
    rw [show r = _ from hC]
    exact gIret rfl
  | inr y6 =>
    obtain rfl := Option.some.inj hr
    exact hC

/-! 84: TunnelFabric$Tunnel.cellsHeld()I -/
def s84 (μ : mM) (a0 : Nat) : Option Int32 :=
  if (mS μ a0).1 = 6 then if (mS μ (mP μ a0 6)).1 = 7 then (s92 μ (mP μ a0 6)).bind fun q3 => if (mS μ (mP μ a0 7)).1 = 7 then (s92 μ (mP μ a0 7)).bind fun q6 => some ((((mI μ (mP μ a0 6) 2) + q3) + (mI μ (mP μ a0 7) 2)) + q6) else none else none else none
set_option maxRecDepth 20000 in
theorem t84 {μ : mM} {a0 : Nat} {o : Int32} (hr : s84 μ a0 = some o) : mEv mG 84 [.ref a0] μ (some (.int o)) (μ) := by
  obtain ⟨r, hC⟩ : ∃ r : Option Value × mM, r = (some (.int o), μ) := ⟨_, rfl⟩
  show mGo mG (84, List.drop 0 mC84, [.ref a0], [], μ) (some (.int o), μ)
  rw [← hC]
  unfold s84 at hr
  refine mGo.steps 1 (c' := (84, List.drop 1 mC84, [.ref a0], [.ref a0], μ)) rfl ?_
  obtain ⟨h1, hr⟩ := mIf hr
  refine gGet (is := List.drop 2 mC84) (v := .ref (mP μ a0 6)) h1 rfl ?_
  obtain ⟨h2, hr⟩ := mIf hr
  refine gGet (is := List.drop 3 mC84) (v := .int (mI μ (mP μ a0 6) 2)) h2 rfl ?_
  refine mGo.steps 1 (c' := (84, List.drop 4 mC84, [.ref a0], [.ref a0, .int (mI μ (mP μ a0 6) 2)], μ)) rfl ?_
  refine gGet (is := List.drop 5 mC84) (v := .ref (mP μ a0 6)) h1 rfl ?_
  obtain ⟨q3, h4, hr⟩ := mBi hr
  refine gCall (z := 92) (n := 0) (f := 0) (kind := 1) (a := (mP μ a0 6)) (As := []) (y := 84) (is := List.drop 6 mC84) (L := [.ref a0]) (rest := [.int (mI μ (mP μ a0 6) 2)]) (μ := μ) rfl (by decide) (by decide) ⟨rfl, rfl⟩ rfl h2 (Nat.le_of_ble_eq_true rfl) (Nat.le_of_ble_eq_true rfl) (t92 h4) ?_
  refine mGo.steps 2 (c' := (84, List.drop 8 mC84, [.ref a0], [.ref a0, .int ((mI μ (mP μ a0 6) 2) + q3)], μ)) rfl ?_
  refine gGet (is := List.drop 9 mC84) (v := .ref (mP μ a0 7)) h1 rfl ?_
  obtain ⟨h5, hr⟩ := mIf hr
  refine gGet (is := List.drop 10 mC84) (v := .int (mI μ (mP μ a0 7) 2)) h5 rfl ?_
  refine mGo.steps 2 (c' := (84, List.drop 12 mC84, [.ref a0], [.ref a0, .int (((mI μ (mP μ a0 6) 2) + q3) + (mI μ (mP μ a0 7) 2))], μ)) rfl ?_
  refine gGet (is := List.drop 13 mC84) (v := .ref (mP μ a0 7)) h1 rfl ?_
  obtain ⟨q6, h7, hr⟩ := mBi hr
  refine gCall (z := 92) (n := 0) (f := 0) (kind := 1) (a := (mP μ a0 7)) (As := []) (y := 84) (is := List.drop 14 mC84) (L := [.ref a0]) (rest := [.int (((mI μ (mP μ a0 6) 2) + q3) + (mI μ (mP μ a0 7) 2))]) (μ := μ) rfl (by decide) (by decide) ⟨rfl, rfl⟩ rfl h5 (Nat.le_of_ble_eq_true rfl) (Nat.le_of_ble_eq_true rfl) (t92 h7) ?_
  refine mGo.steps 1 (c' := (84, List.drop 15 mC84, [.ref a0], [.int ((((mI μ (mP μ a0 6) 2) + q3) + (mI μ (mP μ a0 7) 2)) + q6)], μ)) rfl ?_
  obtain rfl := Option.some.inj hr
  rw [show r = _ from hC]
  exact gIret rfl

/-! 50: TunnelFabric$Fabric.loseTunnel(I)I -/
def s50 (μ : mM) (a0 : Nat) (a1 : Int32) : Option (Int32 × mM) :=
  if (mS μ a0).1 = 1 then (s17 μ a0 a1).bind fun q2 => if ¬ q2 = 0 then (if (mS μ (mP μ a0 1)).1 = 20 + 6 ∧ mInb a1 (mS μ (mP μ a0 1)).2 then if (mS μ (mP μ (mP μ a0 1) (Int32.toNatClampNeg a1))).1 = 6 then (s84 μ (mP μ (mP μ a0 1) (Int32.toNatClampNeg a1))).bind fun q6 => (some (mUI μ (mP μ (mP μ a0 1) (Int32.toNatClampNeg a1)) 0 0)).bind fun μ8 => (some (mUI μ8 a0 5 ((mI μ8 a0 5) + q6))).bind fun μ9 => some (q6, μ9) else none else none) else (some (0, μ)) else none
set_option maxRecDepth 20000 in
theorem t50 {μ : mM} {a0 : Nat} {a1 : Int32} {o : (Int32 × mM)} (hr : s50 μ a0 a1 = some o) : mEv mG 50 [.ref a0, .int a1] μ (some (.int o.1)) (o.2) := by
  obtain ⟨r, hC⟩ : ∃ r : Option Value × mM, r = (some (.int o.1), o.2) := ⟨_, rfl⟩
  show mGo mG (50, List.drop 0 mC50, [.ref a0, .int a1, .retAddr 0], [], μ) (some (.int o.1), o.2)
  rw [← hC]
  unfold s50 at hr
  refine mGo.steps 2 (c' := (50, List.drop 2 mC50, [.ref a0, .int a1, .retAddr 0], [.int a1, .ref a0], μ)) rfl ?_
  obtain ⟨h1, hr⟩ := mIf hr
  obtain ⟨q2, h3, hr⟩ := mBi hr
  refine gCall (z := 17) (n := 1) (f := 0) (kind := 1) (a := a0) (As := [.int a1]) (y := 50) (is := List.drop 3 mC50) (L := [.ref a0, .int a1, .retAddr 0]) (rest := []) (μ := μ) rfl (by decide) (by decide) ⟨rfl, rfl⟩ rfl h1 (Nat.le_of_ble_eq_true rfl) (Nat.le_of_ble_eq_true rfl) (t17 h3) ?_
  rcases mIte hr with ⟨h10, hr⟩ | ⟨h10, hr⟩
  · refine gBrT (p := ¬ q2 = 0) (y := 50) (is := List.drop 4 mC50) (L := [.ref a0, .int a1, .retAddr 0]) (st := []) (μ := μ) (t := 10) rfl h10 ?_
    refine mGo.steps 1 (c' := (50, List.drop 7 mC50, [.ref a0, .int a1, .retAddr 0], [.ref a0], μ)) rfl ?_
    refine gGet (is := List.drop 8 mC50) (v := .ref (mP μ a0 1)) h1 rfl ?_
    refine mGo.steps 1 (c' := (50, List.drop 9 mC50, [.ref a0, .int a1, .retAddr 0], [.int a1, .ref (mP μ a0 1)], μ)) rfl ?_
    obtain ⟨h4, hr⟩ := mIf hr
    refine gAald (is := List.drop 10 mC50) h4 ?_
    obtain ⟨h5, hr⟩ := mIf hr
    obtain ⟨q6, h7, hr⟩ := mBi hr
    refine gCall (z := 84) (n := 0) (f := 0) (kind := 1) (a := (mP μ (mP μ a0 1) (Int32.toNatClampNeg a1))) (As := []) (y := 50) (is := List.drop 11 mC50) (L := [.ref a0, .int a1, .retAddr 0]) (rest := []) (μ := μ) rfl (by decide) (by decide) ⟨rfl, rfl⟩ rfl h5 (Nat.le_of_ble_eq_true rfl) (Nat.le_of_ble_eq_true rfl) (t84 h7) ?_
    refine mGo.steps 2 (c' := (50, List.drop 13 mC50, [.ref a0, .int a1, .int q6], [.ref a0], μ)) rfl ?_
    refine gGet (is := List.drop 14 mC50) (v := .ref (mP μ a0 1)) h1 rfl ?_
    refine mGo.steps 1 (c' := (50, List.drop 15 mC50, [.ref a0, .int a1, .int q6], [.int a1, .ref (mP μ a0 1)], μ)) rfl ?_
    refine gAald (is := List.drop 16 mC50) h4 ?_
    refine mGo.steps 1 (c' := (50, List.drop 17 mC50, [.ref a0, .int a1, .int q6], [.int 0, .ref (mP μ (mP μ a0 1) (Int32.toNatClampNeg a1))], μ)) rfl ?_
    replace hr := mBs hr
    refine gPut (is := List.drop 18 mC50) (μ' := mUI μ (mP μ (mP μ a0 1) (Int32.toNatClampNeg a1)) 0 0) h5 (gZ (by decide)) ?_
    let μ8 : mM := mUI μ (mP μ (mP μ a0 1) (Int32.toNatClampNeg a1)) 0 0
    refine mGo.steps 2 (c' := (50, List.drop 20 mC50, [.ref a0, .int a1, .int q6], [.ref a0, .ref a0], μ8)) rfl ?_
    refine gGet (is := List.drop 21 mC50) (v := .int (mI μ8 a0 5)) h1 rfl ?_
    refine mGo.steps 2 (c' := (50, List.drop 23 mC50, [.ref a0, .int a1, .int q6], [.int ((mI μ8 a0 5) + q6), .ref a0], μ8)) rfl ?_
    replace hr := mBs hr
    refine gPut (is := List.drop 24 mC50) (μ' := mUI μ8 a0 5 ((mI μ8 a0 5) + q6)) h1 rfl ?_
    let μ9 : mM := mUI μ8 a0 5 ((mI μ8 a0 5) + q6)
    refine mGo.steps 1 (c' := (50, List.drop 25 mC50, [.ref a0, .int a1, .int q6], [.int q6], μ9)) rfl ?_
    obtain rfl := Option.some.inj hr
    rw [show r = _ from hC]
    exact gIret rfl
  · refine gBrF (p := ¬ q2 = 0) (y := 50) (is := List.drop 4 mC50) (L := [.ref a0, .int a1, .retAddr 0]) (st := []) (μ := μ) (t := 10) rfl h10 ?_
    refine mGo.steps 1 (c' := (50, List.drop 5 mC50, [.ref a0, .int a1, .retAddr 0], [.int 0], μ)) rfl ?_
    obtain rfl := Option.some.inj hr
    rw [show r = _ from hC]
    exact gIret rfl

/-! 59: TunnelFabric$Plan.<init>()V -/
def s59 (μ : mM) (a0 : Nat) : Option mM :=
  if ¬ a0 = 0 then (some (mNew μ 10 (Int32.toNatClampNeg 60))).bind fun μ2 => if (mS μ2 a0).1 = 3 then (some (mUP μ2 a0 0 (mNx μ))).bind fun μ4 => (some (mNew μ4 10 (Int32.toNatClampNeg 8))).bind fun μ5 => if (mS μ5 a0).1 = 3 then (some (mUP μ5 a0 2 (mNx μ4))).bind fun μ7 => (some (mNew μ7 10 (Int32.toNatClampNeg 8))).bind fun μ8 => if (mS μ8 a0).1 = 3 then (some (mUP μ8 a0 3 (mNx μ7))).bind fun μ10 => (some (mNew μ10 10 (Int32.toNatClampNeg 8))).bind fun μ11 => if (mS μ11 a0).1 = 3 then (some (mUP μ11 a0 4 (mNx μ10))).bind fun μ13 => (some (mNew μ13 10 (Int32.toNatClampNeg 8))).bind fun μ14 => if (mS μ14 a0).1 = 3 then (some (mUP μ14 a0 5 (mNx μ13))).bind fun μ16 => (some (mNew μ16 10 (Int32.toNatClampNeg 8))).bind fun μ17 => if (mS μ17 a0).1 = 3 then (some (mUP μ17 a0 6 (mNx μ16))).bind fun μ19 => (some (mNew μ19 10 (Int32.toNatClampNeg 8))).bind fun μ20 => if (mS μ20 a0).1 = 3 then (some (mUP μ20 a0 7 (mNx μ19))).bind fun μ22 => some μ22 else none else none else none else none else none else none else none else none
set_option maxRecDepth 20000 in
theorem t59 {μ : mM} {a0 : Nat} {o : mM} (hr : s59 μ a0 = some o) : mEv mG 59 [.ref a0] μ (none) (o) := by
  obtain ⟨r, hC⟩ : ∃ r : Option Value × mM, r = (none, o) := ⟨_, rfl⟩
  show mGo mG (59, List.drop 0 mC59, [.ref a0], [], μ) (none, o)
  rw [← hC]
  unfold s59 at hr
  refine mGo.steps 1 (c' := (59, List.drop 1 mC59, [.ref a0], [.ref a0], μ)) rfl ?_
  obtain ⟨h1, hr⟩ := mIf hr
  refine gObj (is := List.drop 2 mC59) h1 (Nat.le_of_ble_eq_true rfl) ?_
  refine mGo.steps 2 (c' := (59, List.drop 4 mC59, [.ref a0], [.int 60, .ref a0], μ)) rfl ?_
  replace hr := mBs hr
  refine mGo.steps 1 (c' := (59, List.drop 5 mC59, [.ref a0], [.ref (mNx μ), .ref a0], (mNew μ 10 (Int32.toNatClampNeg 60)))) rfl ?_
  let μ2 : mM := mNew μ 10 (Int32.toNatClampNeg 60)
  obtain ⟨h3, hr⟩ := mIf hr
  replace hr := mBs hr
  refine gPut (is := List.drop 6 mC59) (μ' := mUP μ2 a0 0 (mNx μ)) h3 rfl ?_
  let μ4 : mM := mUP μ2 a0 0 (mNx μ)
  refine mGo.steps 2 (c' := (59, List.drop 8 mC59, [.ref a0], [.int 8, .ref a0], μ4)) rfl ?_
  replace hr := mBs hr
  refine mGo.steps 1 (c' := (59, List.drop 9 mC59, [.ref a0], [.ref (mNx μ4), .ref a0], (mNew μ4 10 (Int32.toNatClampNeg 8)))) rfl ?_
  let μ5 : mM := mNew μ4 10 (Int32.toNatClampNeg 8)
  obtain ⟨h6, hr⟩ := mIf hr
  replace hr := mBs hr
  refine gPut (is := List.drop 10 mC59) (μ' := mUP μ5 a0 2 (mNx μ4)) h6 rfl ?_
  let μ7 : mM := mUP μ5 a0 2 (mNx μ4)
  refine mGo.steps 2 (c' := (59, List.drop 12 mC59, [.ref a0], [.int 8, .ref a0], μ7)) rfl ?_
  replace hr := mBs hr
  refine mGo.steps 1 (c' := (59, List.drop 13 mC59, [.ref a0], [.ref (mNx μ7), .ref a0], (mNew μ7 10 (Int32.toNatClampNeg 8)))) rfl ?_
  let μ8 : mM := mNew μ7 10 (Int32.toNatClampNeg 8)
  obtain ⟨h9, hr⟩ := mIf hr
  replace hr := mBs hr
  refine gPut (is := List.drop 14 mC59) (μ' := mUP μ8 a0 3 (mNx μ7)) h9 rfl ?_
  let μ10 : mM := mUP μ8 a0 3 (mNx μ7)
  refine mGo.steps 2 (c' := (59, List.drop 16 mC59, [.ref a0], [.int 8, .ref a0], μ10)) rfl ?_
  replace hr := mBs hr
  refine mGo.steps 1 (c' := (59, List.drop 17 mC59, [.ref a0], [.ref (mNx μ10), .ref a0], (mNew μ10 10 (Int32.toNatClampNeg 8)))) rfl ?_
  let μ11 : mM := mNew μ10 10 (Int32.toNatClampNeg 8)
  obtain ⟨h12, hr⟩ := mIf hr
  replace hr := mBs hr
  refine gPut (is := List.drop 18 mC59) (μ' := mUP μ11 a0 4 (mNx μ10)) h12 rfl ?_
  let μ13 : mM := mUP μ11 a0 4 (mNx μ10)
  refine mGo.steps 2 (c' := (59, List.drop 20 mC59, [.ref a0], [.int 8, .ref a0], μ13)) rfl ?_
  replace hr := mBs hr
  refine mGo.steps 1 (c' := (59, List.drop 21 mC59, [.ref a0], [.ref (mNx μ13), .ref a0], (mNew μ13 10 (Int32.toNatClampNeg 8)))) rfl ?_
  let μ14 : mM := mNew μ13 10 (Int32.toNatClampNeg 8)
  obtain ⟨h15, hr⟩ := mIf hr
  replace hr := mBs hr
  refine gPut (is := List.drop 22 mC59) (μ' := mUP μ14 a0 5 (mNx μ13)) h15 rfl ?_
  let μ16 : mM := mUP μ14 a0 5 (mNx μ13)
  refine mGo.steps 2 (c' := (59, List.drop 24 mC59, [.ref a0], [.int 8, .ref a0], μ16)) rfl ?_
  replace hr := mBs hr
  refine mGo.steps 1 (c' := (59, List.drop 25 mC59, [.ref a0], [.ref (mNx μ16), .ref a0], (mNew μ16 10 (Int32.toNatClampNeg 8)))) rfl ?_
  let μ17 : mM := mNew μ16 10 (Int32.toNatClampNeg 8)
  obtain ⟨h18, hr⟩ := mIf hr
  replace hr := mBs hr
  refine gPut (is := List.drop 26 mC59) (μ' := mUP μ17 a0 6 (mNx μ16)) h18 rfl ?_
  let μ19 : mM := mUP μ17 a0 6 (mNx μ16)
  refine mGo.steps 2 (c' := (59, List.drop 28 mC59, [.ref a0], [.int 8, .ref a0], μ19)) rfl ?_
  replace hr := mBs hr
  refine mGo.steps 1 (c' := (59, List.drop 29 mC59, [.ref a0], [.ref (mNx μ19), .ref a0], (mNew μ19 10 (Int32.toNatClampNeg 8)))) rfl ?_
  let μ20 : mM := mNew μ19 10 (Int32.toNatClampNeg 8)
  obtain ⟨h21, hr⟩ := mIf hr
  replace hr := mBs hr
  refine gPut (is := List.drop 30 mC59) (μ' := mUP μ20 a0 7 (mNx μ19)) h21 rfl ?_
  let μ22 : mM := mUP μ20 a0 7 (mNx μ19)
  obtain rfl := Option.some.inj hr
  rw [show r = _ from hC]
  exact gVret rfl

/-! 60: TunnelFabric$Plan.append(I)Z -/
def s60_7 (a0 : Nat) (a1 : Int32) (μ : mM) : Option (Int32 × mM) :=
  some (0, μ)
set_option maxRecDepth 20000 in
theorem t60_7 (a0 : Nat) (a1 : Int32) (μ : mM) (w0 : Value) (hw0 : mNotL w0 = true) (w1 : Value) (hw1 : mNotL w1 = true) {o : (Int32 × mM)} {r : Option Value × mM} (hr : s60_7 a0 a1 μ = some o) (hC : r = (some (.int o.1), o.2)) : mGo mG (60, List.drop 7 mC60, [w0, w1], [], μ) r := by
  unfold s60_7 at hr
  refine mGo.steps 1 (c' := (60, List.drop 8 mC60, [w0, w1], [.int 0], μ)) rfl ?_
  obtain rfl := Option.some.inj hr
  rw [show r = _ from hC]
  exact gZret rfl (by decide)
def s60 (μ : mM) (a0 : Nat) (a1 : Int32) : Option (Int32 × mM) :=
  if (mS μ a0).1 = 3 then if (mI μ a0 1) < 0 then (s60_7 a0 a1 μ) else (if (mI μ a0 1) < 60 then (if (mS μ (mP μ a0 0)).1 = 10 ∧ mInb (mI μ a0 1) (mS μ (mP μ a0 0)).2 then (some (mUI μ (mP μ a0 0) (Int32.toNatClampNeg (mI μ a0 1)) a1)).bind fun μ3 => (some (mUI μ3 a0 1 ((mI μ3 a0 1) + 1))).bind fun μ4 => some (1, μ4) else none) else (s60_7 a0 a1 μ)) else none
set_option maxRecDepth 20000 in
theorem t60 {μ : mM} {a0 : Nat} {a1 : Int32} {o : (Int32 × mM)} (hr : s60 μ a0 a1 = some o) : mEv mG 60 [.ref a0, .int a1] μ (some (.int o.1)) (o.2) := by
  obtain ⟨r, hC⟩ : ∃ r : Option Value × mM, r = (some (.int o.1), o.2) := ⟨_, rfl⟩
  show mGo mG (60, List.drop 0 mC60, [.ref a0, .int a1], [], μ) (some (.int o.1), o.2)
  rw [← hC]
  unfold s60 at hr
  refine mGo.steps 1 (c' := (60, List.drop 1 mC60, [.ref a0, .int a1], [.ref a0], μ)) rfl ?_
  obtain ⟨h1, hr⟩ := mIf hr
  refine gGet (is := List.drop 2 mC60) (v := .int (mI μ a0 1)) h1 rfl ?_
  rcases mIte hr with ⟨h6, hr⟩ | ⟨h6, hr⟩
  · refine gBrT (p := (mI μ a0 1) < 0) (y := 60) (is := List.drop 3 mC60) (L := [.ref a0, .int a1]) (st := []) (μ := μ) (t := 16) rfl h6 ?_
    exact t60_7 a0 a1 μ (.ref a0) rfl (.int a1) rfl hr hC
  · refine gBrF (p := (mI μ a0 1) < 0) (y := 60) (is := List.drop 3 mC60) (L := [.ref a0, .int a1]) (st := []) (μ := μ) (t := 16) rfl h6 ?_
    refine mGo.steps 1 (c' := (60, List.drop 4 mC60, [.ref a0, .int a1], [.ref a0], μ)) rfl ?_
    refine gGet (is := List.drop 5 mC60) (v := .int (mI μ a0 1)) h1 rfl ?_
    refine mGo.steps 1 (c' := (60, List.drop 6 mC60, [.ref a0, .int a1], [.int 60, .int (mI μ a0 1)], μ)) rfl ?_
    rcases mIte hr with ⟨h5, hr⟩ | ⟨h5, hr⟩
    · refine gBrT (p := (mI μ a0 1) < 60) (y := 60) (is := List.drop 7 mC60) (L := [.ref a0, .int a1]) (st := []) (μ := μ) (t := 18) rfl h5 ?_
      refine mGo.steps 1 (c' := (60, List.drop 10 mC60, [.ref a0, .int a1], [.ref a0], μ)) rfl ?_
      refine gGet (is := List.drop 11 mC60) (v := .ref (mP μ a0 0)) h1 rfl ?_
      refine mGo.steps 1 (c' := (60, List.drop 12 mC60, [.ref a0, .int a1], [.ref a0, .ref (mP μ a0 0)], μ)) rfl ?_
      refine gGet (is := List.drop 13 mC60) (v := .int (mI μ a0 1)) h1 rfl ?_
      refine mGo.steps 1 (c' := (60, List.drop 14 mC60, [.ref a0, .int a1], [.int a1, .int (mI μ a0 1), .ref (mP μ a0 0)], μ)) rfl ?_
      obtain ⟨h2, hr⟩ := mIf hr
      replace hr := mBs hr
      refine gIast (is := List.drop 15 mC60) h2 ?_
      let μ3 : mM := mUI μ (mP μ a0 0) (Int32.toNatClampNeg (mI μ a0 1)) a1
      refine mGo.steps 2 (c' := (60, List.drop 17 mC60, [.ref a0, .int a1], [.ref a0, .ref a0], μ3)) rfl ?_
      refine gGet (is := List.drop 18 mC60) (v := .int (mI μ3 a0 1)) h1 rfl ?_
      refine mGo.steps 2 (c' := (60, List.drop 20 mC60, [.ref a0, .int a1], [.int ((mI μ3 a0 1) + 1), .ref a0], μ3)) rfl ?_
      replace hr := mBs hr
      refine gPut (is := List.drop 21 mC60) (μ' := mUI μ3 a0 1 ((mI μ3 a0 1) + 1)) h1 rfl ?_
      let μ4 : mM := mUI μ3 a0 1 ((mI μ3 a0 1) + 1)
      refine mGo.steps 1 (c' := (60, List.drop 22 mC60, [.ref a0, .int a1], [.int 1], μ4)) rfl ?_
      obtain rfl := Option.some.inj hr
      rw [show r = _ from hC]
      exact gZret rfl (by decide)
    · refine gBrF (p := (mI μ a0 1) < 60) (y := 60) (is := List.drop 7 mC60) (L := [.ref a0, .int a1]) (st := []) (μ := μ) (t := 18) rfl h5 ?_
      exact t60_7 a0 a1 μ (.ref a0) rfl (.int a1) rfl hr hC

/-! 62: TunnelFabric$Plan.startReading()V -/
def s62 (μ : mM) (a0 : Nat) : Option mM :=
  if (mS μ a0).1 = 3 then if (mS μ (mP μ a0 2)).1 = 10 ∧ mInb 0 (mS μ (mP μ a0 2)).2 then (some (mUI μ (mP μ a0 2) (Int32.toNatClampNeg 0) 4)).bind fun μ3 => if (mS μ3 (mP μ3 a0 6)).1 = 10 ∧ mInb 0 (mS μ3 (mP μ3 a0 6)).2 then (some (mUI μ3 (mP μ3 a0 6) (Int32.toNatClampNeg 0) 0)).bind fun μ5 => if (mS μ5 (mP μ5 a0 7)).1 = 10 ∧ mInb 0 (mS μ5 (mP μ5 a0 7)).2 then (some (mUI μ5 (mP μ5 a0 7) (Int32.toNatClampNeg 0) 0)).bind fun μ7 => (some (mUI μ7 a0 8 0)).bind fun μ8 => (some (mUI μ8 a0 9 0)).bind fun μ9 => (some (mUI μ9 a0 10 0)).bind fun μ10 => (some (mUI μ10 a0 11 0)).bind fun μ11 => some μ11 else none else none else none else none
set_option maxRecDepth 20000 in
theorem t62 {μ : mM} {a0 : Nat} {o : mM} (hr : s62 μ a0 = some o) : mEv mG 62 [.ref a0] μ (none) (o) := by
  obtain ⟨r, hC⟩ : ∃ r : Option Value × mM, r = (none, o) := ⟨_, rfl⟩
  show mGo mG (62, List.drop 0 mC62, [.ref a0], [], μ) (none, o)
  rw [← hC]
  unfold s62 at hr
  refine mGo.steps 1 (c' := (62, List.drop 1 mC62, [.ref a0], [.ref a0], μ)) rfl ?_
  obtain ⟨h1, hr⟩ := mIf hr
  refine gGet (is := List.drop 2 mC62) (v := .ref (mP μ a0 2)) h1 rfl ?_
  refine mGo.steps 2 (c' := (62, List.drop 4 mC62, [.ref a0], [.int 4, .int 0, .ref (mP μ a0 2)], μ)) rfl ?_
  obtain ⟨h2, hr⟩ := mIf hr
  replace hr := mBs hr
  refine gIast (is := List.drop 5 mC62) h2 ?_
  let μ3 : mM := mUI μ (mP μ a0 2) (Int32.toNatClampNeg 0) 4
  refine mGo.steps 1 (c' := (62, List.drop 6 mC62, [.ref a0], [.ref a0], μ3)) rfl ?_
  refine gGet (is := List.drop 7 mC62) (v := .ref (mP μ3 a0 6)) h1 rfl ?_
  refine mGo.steps 2 (c' := (62, List.drop 9 mC62, [.ref a0], [.int 0, .int 0, .ref (mP μ3 a0 6)], μ3)) rfl ?_
  obtain ⟨h4, hr⟩ := mIf hr
  replace hr := mBs hr
  refine gIast (is := List.drop 10 mC62) h4 ?_
  let μ5 : mM := mUI μ3 (mP μ3 a0 6) (Int32.toNatClampNeg 0) 0
  refine mGo.steps 1 (c' := (62, List.drop 11 mC62, [.ref a0], [.ref a0], μ5)) rfl ?_
  refine gGet (is := List.drop 12 mC62) (v := .ref (mP μ5 a0 7)) h1 rfl ?_
  refine mGo.steps 2 (c' := (62, List.drop 14 mC62, [.ref a0], [.int 0, .int 0, .ref (mP μ5 a0 7)], μ5)) rfl ?_
  obtain ⟨h6, hr⟩ := mIf hr
  replace hr := mBs hr
  refine gIast (is := List.drop 15 mC62) h6 ?_
  let μ7 : mM := mUI μ5 (mP μ5 a0 7) (Int32.toNatClampNeg 0) 0
  refine mGo.steps 2 (c' := (62, List.drop 17 mC62, [.ref a0], [.int 0, .ref a0], μ7)) rfl ?_
  replace hr := mBs hr
  refine gPut (is := List.drop 18 mC62) (μ' := mUI μ7 a0 8 0) h1 rfl ?_
  let μ8 : mM := mUI μ7 a0 8 0
  refine mGo.steps 2 (c' := (62, List.drop 20 mC62, [.ref a0], [.int 0, .ref a0], μ8)) rfl ?_
  replace hr := mBs hr
  refine gPut (is := List.drop 21 mC62) (μ' := mUI μ8 a0 9 0) h1 rfl ?_
  let μ9 : mM := mUI μ8 a0 9 0
  refine mGo.steps 2 (c' := (62, List.drop 23 mC62, [.ref a0], [.int 0, .ref a0], μ9)) rfl ?_
  replace hr := mBs hr
  refine gPut (is := List.drop 24 mC62) (μ' := mUI μ9 a0 10 0) h1 (gZ (by decide)) ?_
  let μ10 : mM := mUI μ9 a0 10 0
  refine mGo.steps 2 (c' := (62, List.drop 26 mC62, [.ref a0], [.int 0, .ref a0], μ10)) rfl ?_
  replace hr := mBs hr
  refine gPut (is := List.drop 27 mC62) (μ' := mUI μ10 a0 11 0) h1 (gZ (by decide)) ?_
  let μ11 : mM := mUI μ10 a0 11 0
  obtain rfl := Option.some.inj hr
  rw [show r = _ from hC]
  exact gVret rfl

/-! 64: TunnelFabric$Plan.acceptsOpening()Z -/
def s64 (μ : mM) (a0 : Nat) : Option (Int32 × mM) :=
  if (mS μ a0).1 = 3 then if ¬ (mI μ a0 11) = 0 then ((some (mUI μ a0 9 (mI μ a0 8))).bind fun μ2 => (some (mUI μ2 a0 11 0)).bind fun μ3 => some (1, μ3)) else (some (0, μ)) else none
set_option maxRecDepth 20000 in
theorem t64 {μ : mM} {a0 : Nat} {o : (Int32 × mM)} (hr : s64 μ a0 = some o) : mEv mG 64 [.ref a0] μ (some (.int o.1)) (o.2) := by
  obtain ⟨r, hC⟩ : ∃ r : Option Value × mM, r = (some (.int o.1), o.2) := ⟨_, rfl⟩
  show mGo mG (64, List.drop 0 mC64, [.ref a0], [], μ) (some (.int o.1), o.2)
  rw [← hC]
  unfold s64 at hr
  refine mGo.steps 1 (c' := (64, List.drop 1 mC64, [.ref a0], [.ref a0], μ)) rfl ?_
  obtain ⟨h1, hr⟩ := mIf hr
  refine gGet (is := List.drop 2 mC64) (v := .int (mI μ a0 11)) h1 rfl ?_
  rcases mIte hr with ⟨h4, hr⟩ | ⟨h4, hr⟩
  · refine gBrT (p := ¬ (mI μ a0 11) = 0) (y := 64) (is := List.drop 3 mC64) (L := [.ref a0]) (st := []) (μ := μ) (t := 9) rfl h4 ?_
    refine mGo.steps 2 (c' := (64, List.drop 7 mC64, [.ref a0], [.ref a0, .ref a0], μ)) rfl ?_
    refine gGet (is := List.drop 8 mC64) (v := .int (mI μ a0 8)) h1 rfl ?_
    replace hr := mBs hr
    refine gPut (is := List.drop 9 mC64) (μ' := mUI μ a0 9 (mI μ a0 8)) h1 rfl ?_
    let μ2 : mM := mUI μ a0 9 (mI μ a0 8)
    refine mGo.steps 2 (c' := (64, List.drop 11 mC64, [.ref a0], [.int 0, .ref a0], μ2)) rfl ?_
    replace hr := mBs hr
    refine gPut (is := List.drop 12 mC64) (μ' := mUI μ2 a0 11 0) h1 (gZ (by decide)) ?_
    let μ3 : mM := mUI μ2 a0 11 0
    refine mGo.steps 1 (c' := (64, List.drop 13 mC64, [.ref a0], [.int 1], μ3)) rfl ?_
    obtain rfl := Option.some.inj hr
    rw [show r = _ from hC]
    exact gZret rfl (by decide)
  · refine gBrF (p := ¬ (mI μ a0 11) = 0) (y := 64) (is := List.drop 3 mC64) (L := [.ref a0]) (st := []) (μ := μ) (t := 9) rfl h4 ?_
    refine mGo.steps 1 (c' := (64, List.drop 4 mC64, [.ref a0], [.int 0], μ)) rfl ?_
    obtain rfl := Option.some.inj hr
    rw [show r = _ from hC]
    exact gZret rfl (by decide)

/-! 65: TunnelFabric$Plan.acceptsClosing()Z -/
def s65_10 (a0 : Nat) (μ : mM) : Option (Int32 × mM) :=
  some (0, μ)
set_option maxRecDepth 20000 in
theorem t65_10 (a0 : Nat) (μ : mM) (w0 : Value) (hw0 : mNotL w0 = true) {o : (Int32 × mM)} {r : Option Value × mM} (hr : s65_10 a0 μ = some o) (hC : r = (some (.int o.1), o.2)) : mGo mG (65, List.drop 10 mC65, [w0], [], μ) r := by
  unfold s65_10 at hr
  refine mGo.steps 1 (c' := (65, List.drop 11 mC65, [w0], [.int 0], μ)) rfl ?_
  obtain rfl := Option.some.inj hr
  rw [show r = _ from hC]
  exact gZret rfl (by decide)
def s65 (μ : mM) (a0 : Nat) : Option (Int32 × mM) :=
  if (mS μ a0).1 = 3 then if ¬ (mI μ a0 10) = 0 then (s65_10 a0 μ) else (if (mI μ a0 9) ≤ 0 then (s65_10 a0 μ) else (if (mI μ a0 9) < 8 then (if (mS μ (mP μ a0 4)).1 = 10 ∧ mInb (mI μ a0 9) (mS μ (mP μ a0 4)).2 then (some (mUI μ a0 9 (mI μ (mP μ a0 4) (Int32.toNatClampNeg (mI μ a0 9))))).bind fun μ3 => (some (mUI μ3 a0 11 0)).bind fun μ4 => some (1, μ4) else none) else (s65_10 a0 μ))) else none
set_option maxRecDepth 20000 in
theorem t65 {μ : mM} {a0 : Nat} {o : (Int32 × mM)} (hr : s65 μ a0 = some o) : mEv mG 65 [.ref a0] μ (some (.int o.1)) (o.2) := by
  obtain ⟨r, hC⟩ : ∃ r : Option Value × mM, r = (some (.int o.1), o.2) := ⟨_, rfl⟩
  show mGo mG (65, List.drop 0 mC65, [.ref a0], [], μ) (some (.int o.1), o.2)
  rw [← hC]
  unfold s65 at hr
  refine mGo.steps 1 (c' := (65, List.drop 1 mC65, [.ref a0], [.ref a0], μ)) rfl ?_
  obtain ⟨h1, hr⟩ := mIf hr
  refine gGet (is := List.drop 2 mC65) (v := .int (mI μ a0 10)) h1 rfl ?_
  rcases mIte hr with ⟨h7, hr⟩ | ⟨h7, hr⟩
  · refine gBrT (p := ¬ (mI μ a0 10) = 0) (y := 65) (is := List.drop 3 mC65) (L := [.ref a0]) (st := []) (μ := μ) (t := 23) rfl h7 ?_
    exact t65_10 a0 μ (.ref a0) rfl hr hC
  · refine gBrF (p := ¬ (mI μ a0 10) = 0) (y := 65) (is := List.drop 3 mC65) (L := [.ref a0]) (st := []) (μ := μ) (t := 23) rfl h7 ?_
    refine mGo.steps 1 (c' := (65, List.drop 4 mC65, [.ref a0], [.ref a0], μ)) rfl ?_
    refine gGet (is := List.drop 5 mC65) (v := .int (mI μ a0 9)) h1 rfl ?_
    rcases mIte hr with ⟨h6, hr⟩ | ⟨h6, hr⟩
    · refine gBrT (p := (mI μ a0 9) ≤ 0) (y := 65) (is := List.drop 6 mC65) (L := [.ref a0]) (st := []) (μ := μ) (t := 23) rfl h6 ?_
      exact t65_10 a0 μ (.ref a0) rfl hr hC
    · refine gBrF (p := (mI μ a0 9) ≤ 0) (y := 65) (is := List.drop 6 mC65) (L := [.ref a0]) (st := []) (μ := μ) (t := 23) rfl h6 ?_
      refine mGo.steps 1 (c' := (65, List.drop 7 mC65, [.ref a0], [.ref a0], μ)) rfl ?_
      refine gGet (is := List.drop 8 mC65) (v := .int (mI μ a0 9)) h1 rfl ?_
      refine mGo.steps 1 (c' := (65, List.drop 9 mC65, [.ref a0], [.int 8, .int (mI μ a0 9)], μ)) rfl ?_
      rcases mIte hr with ⟨h5, hr⟩ | ⟨h5, hr⟩
      · refine gBrT (p := (mI μ a0 9) < 8) (y := 65) (is := List.drop 10 mC65) (L := [.ref a0]) (st := []) (μ := μ) (t := 25) rfl h5 ?_
        refine mGo.steps 2 (c' := (65, List.drop 14 mC65, [.ref a0], [.ref a0, .ref a0], μ)) rfl ?_
        refine gGet (is := List.drop 15 mC65) (v := .ref (mP μ a0 4)) h1 rfl ?_
        refine mGo.steps 1 (c' := (65, List.drop 16 mC65, [.ref a0], [.ref a0, .ref (mP μ a0 4), .ref a0], μ)) rfl ?_
        refine gGet (is := List.drop 17 mC65) (v := .int (mI μ a0 9)) h1 rfl ?_
        obtain ⟨h2, hr⟩ := mIf hr
        refine gIald (is := List.drop 18 mC65) h2 ?_
        replace hr := mBs hr
        refine gPut (is := List.drop 19 mC65) (μ' := mUI μ a0 9 (mI μ (mP μ a0 4) (Int32.toNatClampNeg (mI μ a0 9)))) h1 rfl ?_
        let μ3 : mM := mUI μ a0 9 (mI μ (mP μ a0 4) (Int32.toNatClampNeg (mI μ a0 9)))
        refine mGo.steps 2 (c' := (65, List.drop 21 mC65, [.ref a0], [.int 0, .ref a0], μ3)) rfl ?_
        replace hr := mBs hr
        refine gPut (is := List.drop 22 mC65) (μ' := mUI μ3 a0 11 0) h1 (gZ (by decide)) ?_
        let μ4 : mM := mUI μ3 a0 11 0
        refine mGo.steps 1 (c' := (65, List.drop 23 mC65, [.ref a0], [.int 1], μ4)) rfl ?_
        obtain rfl := Option.some.inj hr
        rw [show r = _ from hC]
        exact gZret rfl (by decide)
      · refine gBrF (p := (mI μ a0 9) < 8) (y := 65) (is := List.drop 10 mC65) (L := [.ref a0]) (st := []) (μ := μ) (t := 25) rfl h5 ?_
        exact t65_10 a0 μ (.ref a0) rfl hr hC

/-! 131: TunnelFabric.isBetween(III)Z -/
def s131_9 (μ : mM) (a0 : Int32) (a1 : Int32) (a2 : Int32) (t0 : Int32) : Option Int32 :=
  if t0 = 0 ∨ t0 = 1 then some t0 else none
set_option maxRecDepth 20000 in
theorem t131_9 (μ : mM) (a0 : Int32) (a1 : Int32) (a2 : Int32) (t0 : Int32) (w0 : Value) (hw0 : mNotL w0 = true) (w1 : Value) (hw1 : mNotL w1 = true) (w2 : Value) (hw2 : mNotL w2 = true) {o : Int32} {r : Option Value × mM} (hr : s131_9 μ a0 a1 a2 t0 = some o) (hC : r = (some (.int o), μ)) : mGo mG (131, List.drop 9 mC131, [w0, w1, w2], [.int t0], μ) r := by
  unfold s131_9 at hr
  obtain ⟨h1, hr⟩ := mIf hr
  obtain rfl := Option.some.inj hr
  rw [show r = _ from hC]
  exact gZret rfl h1
def s131_8 (μ : mM) (a0 : Int32) (a1 : Int32) (a2 : Int32) : Option Int32 :=
  s131_9 μ a0 a1 a2 0
set_option maxRecDepth 20000 in
theorem t131_8 (μ : mM) (a0 : Int32) (a1 : Int32) (a2 : Int32) (w0 : Value) (hw0 : mNotL w0 = true) (w1 : Value) (hw1 : mNotL w1 = true) (w2 : Value) (hw2 : mNotL w2 = true) {o : Int32} {r : Option Value × mM} (hr : s131_8 μ a0 a1 a2 = some o) (hC : r = (some (.int o), μ)) : mGo mG (131, List.drop 8 mC131, [w0, w1, w2], [], μ) r := by
  unfold s131_8 at hr
  refine mGo.steps 1 (c' := (131, List.drop 9 mC131, [w0, w1, w2], [.int 0], μ)) rfl ?_
  exact t131_9 μ a0 a1 a2 0 w0 hw0 w1 hw1 w2 hw2 hr hC
def s131 (μ : mM) (a0 : Int32) (a1 : Int32) (a2 : Int32) : Option Int32 :=
  if a0 < a1 then (s131_8 μ a0 a1 a2) else (if a2 < a0 then (s131_8 μ a0 a1 a2) else (s131_9 μ a0 a1 a2 1))
set_option maxRecDepth 20000 in
theorem t131 {μ : mM} {a0 : Int32} {a1 : Int32} {a2 : Int32} {o : Int32} (hr : s131 μ a0 a1 a2 = some o) : mEv mG 131 [.int a0, .int a1, .int a2] μ (some (.int o)) (μ) := by
  obtain ⟨r, hC⟩ : ∃ r : Option Value × mM, r = (some (.int o), μ) := ⟨_, rfl⟩
  show mGo mG (131, List.drop 0 mC131, [.int a0, .int a1, .int a2], [], μ) (some (.int o), μ)
  rw [← hC]
  unfold s131 at hr
  refine mGo.steps 2 (c' := (131, List.drop 2 mC131, [.int a0, .int a1, .int a2], [.int a1, .int a0], μ)) rfl ?_
  rcases mIte hr with ⟨h3, hr⟩ | ⟨h3, hr⟩
  · refine gBrT (p := a0 < a1) (y := 131) (is := List.drop 3 mC131) (L := [.int a0, .int a1, .int a2]) (st := []) (μ := μ) (t := 14) rfl h3 ?_
    exact t131_8 μ a0 a1 a2 (.int a0) rfl (.int a1) rfl (.int a2) rfl hr hC
  · refine gBrF (p := a0 < a1) (y := 131) (is := List.drop 3 mC131) (L := [.int a0, .int a1, .int a2]) (st := []) (μ := μ) (t := 14) rfl h3 ?_
    refine mGo.steps 2 (c' := (131, List.drop 5 mC131, [.int a0, .int a1, .int a2], [.int a2, .int a0], μ)) rfl ?_
    rcases mIte hr with ⟨h2, hr⟩ | ⟨h2, hr⟩
    · refine gBrT (p := a2 < a0) (y := 131) (is := List.drop 6 mC131) (L := [.int a0, .int a1, .int a2]) (st := []) (μ := μ) (t := 14) rfl h2 ?_
      exact t131_8 μ a0 a1 a2 (.int a0) rfl (.int a1) rfl (.int a2) rfl hr hC
    · refine gBrF (p := a2 < a0) (y := 131) (is := List.drop 6 mC131) (L := [.int a0, .int a1, .int a2]) (st := []) (μ := μ) (t := 14) rfl h2 ?_
      refine mGo.steps 2 (c' := (131, List.drop 9 mC131, [.int a0, .int a1, .int a2], [.int 1], μ)) rfl ?_
      exact t131_9 μ a0 a1 a2 1 (.int a0) rfl (.int a1) rfl (.int a2) rfl hr hC

/-! 67: TunnelFabric$Plan.parentTakesOneMore()Z -/
def s67_28 (μ : mM) (a0 : Nat) (t0 : Int32) : Option Int32 :=
  if t0 = 0 ∨ t0 = 1 then some t0 else none
set_option maxRecDepth 20000 in
theorem t67_28 (μ : mM) (a0 : Nat) (t0 : Int32) (w0 : Value) (hw0 : mNotL w0 = true) {o : Int32} {r : Option Value × mM} (hr : s67_28 μ a0 t0 = some o) (hC : r = (some (.int o), μ)) : mGo mG (67, List.drop 28 mC67, [w0], [.int t0], μ) r := by
  unfold s67_28 at hr
  obtain ⟨h4, hr⟩ := mIf hr
  obtain rfl := Option.some.inj hr
  rw [show r = _ from hC]
  exact gZret rfl h4
def s67_27 (μ : mM) (a0 : Nat) : Option Int32 :=
  s67_28 μ a0 0
set_option maxRecDepth 20000 in
theorem t67_27 (μ : mM) (a0 : Nat) (w0 : Value) (hw0 : mNotL w0 = true) {o : Int32} {r : Option Value × mM} (hr : s67_27 μ a0 = some o) (hC : r = (some (.int o), μ)) : mGo mG (67, List.drop 27 mC67, [w0], [], μ) r := by
  unfold s67_27 at hr
  refine mGo.steps 1 (c' := (67, List.drop 28 mC67, [w0], [.int 0], μ)) rfl ?_
  exact t67_28 μ a0 0 w0 hw0 hr hC
def s67 (μ : mM) (a0 : Nat) : Option Int32 :=
  if (mS μ a0).1 = 3 then (s131 μ (mI μ a0 9) 0 7).bind fun q2 => if q2 = 0 then (s67_27 μ a0) else (if (mS μ (mP μ a0 7)).1 = 10 ∧ mInb (mI μ a0 9) (mS μ (mP μ a0 7)).2 then if (mS μ (mP μ a0 2)).1 = 10 ∧ mInb (mI μ a0 9) (mS μ (mP μ a0 2)).2 then (s133 μ (mI μ (mP μ a0 2) (Int32.toNatClampNeg (mI μ a0 9)))).bind fun q7 => if q7 ≤ (mI μ (mP μ a0 7) (Int32.toNatClampNeg (mI μ a0 9))) then (s67_27 μ a0) else (if (mS μ (mP μ a0 6)).1 = 10 ∧ mInb (mI μ a0 9) (mS μ (mP μ a0 6)).2 then if 4 ≤ (mI μ (mP μ a0 6) (Int32.toNatClampNeg (mI μ a0 9))) then (s67_27 μ a0) else (s67_28 μ a0 1) else none) else none else none) else none
set_option maxRecDepth 20000 in
theorem t67 {μ : mM} {a0 : Nat} {o : Int32} (hr : s67 μ a0 = some o) : mEv mG 67 [.ref a0] μ (some (.int o)) (μ) := by
  obtain ⟨r, hC⟩ : ∃ r : Option Value × mM, r = (some (.int o), μ) := ⟨_, rfl⟩
  show mGo mG (67, List.drop 0 mC67, [.ref a0], [], μ) (some (.int o), μ)
  rw [← hC]
  unfold s67 at hr
  refine mGo.steps 1 (c' := (67, List.drop 1 mC67, [.ref a0], [.ref a0], μ)) rfl ?_
  obtain ⟨h1, hr⟩ := mIf hr
  refine gGet (is := List.drop 2 mC67) (v := .int (mI μ a0 9)) h1 rfl ?_
  refine mGo.steps 2 (c' := (67, List.drop 4 mC67, [.ref a0], [.int 7, .int 0, .int (mI μ a0 9)], μ)) rfl ?_
  obtain ⟨q2, h3, hr⟩ := mBi hr
  refine mGo.call (z := 131) (as := [.int (mI μ a0 9), .int 0, .int 7]) (y := 67) (is := List.drop 5 mC67) (L := [.ref a0]) (st := []) (μ := μ) rfl (t131 h3) ?_
  rcases mIte hr with ⟨h12, hr⟩ | ⟨h12, hr⟩
  · refine gBrT (p := q2 = 0) (y := 67) (is := List.drop 6 mC67) (L := [.ref a0]) (st := []) (μ := μ) (t := 54) rfl h12 ?_
    exact t67_27 μ a0 (.ref a0) rfl hr hC
  · refine gBrF (p := q2 = 0) (y := 67) (is := List.drop 6 mC67) (L := [.ref a0]) (st := []) (μ := μ) (t := 54) rfl h12 ?_
    refine mGo.steps 1 (c' := (67, List.drop 7 mC67, [.ref a0], [.ref a0], μ)) rfl ?_
    refine gGet (is := List.drop 8 mC67) (v := .ref (mP μ a0 7)) h1 rfl ?_
    refine mGo.steps 1 (c' := (67, List.drop 9 mC67, [.ref a0], [.ref a0, .ref (mP μ a0 7)], μ)) rfl ?_
    refine gGet (is := List.drop 10 mC67) (v := .int (mI μ a0 9)) h1 rfl ?_
    obtain ⟨h5, hr⟩ := mIf hr
    refine gIald (is := List.drop 11 mC67) h5 ?_
    refine mGo.steps 1 (c' := (67, List.drop 12 mC67, [.ref a0], [.ref a0, .int (mI μ (mP μ a0 7) (Int32.toNatClampNeg (mI μ a0 9)))], μ)) rfl ?_
    refine gGet (is := List.drop 13 mC67) (v := .ref (mP μ a0 2)) h1 rfl ?_
    refine mGo.steps 1 (c' := (67, List.drop 14 mC67, [.ref a0], [.ref a0, .ref (mP μ a0 2), .int (mI μ (mP μ a0 7) (Int32.toNatClampNeg (mI μ a0 9)))], μ)) rfl ?_
    refine gGet (is := List.drop 15 mC67) (v := .int (mI μ a0 9)) h1 rfl ?_
    obtain ⟨h6, hr⟩ := mIf hr
    refine gIald (is := List.drop 16 mC67) h6 ?_
    obtain ⟨q7, h8, hr⟩ := mBi hr
    refine mGo.call (z := 133) (as := [.int (mI μ (mP μ a0 2) (Int32.toNatClampNeg (mI μ a0 9)))]) (y := 67) (is := List.drop 17 mC67) (L := [.ref a0]) (st := [.int (mI μ (mP μ a0 7) (Int32.toNatClampNeg (mI μ a0 9)))]) (μ := μ) rfl (t133 h8) ?_
    rcases mIte hr with ⟨h11, hr⟩ | ⟨h11, hr⟩
    · refine gBrT (p := q7 ≤ (mI μ (mP μ a0 7) (Int32.toNatClampNeg (mI μ a0 9)))) (y := 67) (is := List.drop 18 mC67) (L := [.ref a0]) (st := []) (μ := μ) (t := 54) rfl h11 ?_
      exact t67_27 μ a0 (.ref a0) rfl hr hC
    · refine gBrF (p := q7 ≤ (mI μ (mP μ a0 7) (Int32.toNatClampNeg (mI μ a0 9)))) (y := 67) (is := List.drop 18 mC67) (L := [.ref a0]) (st := []) (μ := μ) (t := 54) rfl h11 ?_
      refine mGo.steps 1 (c' := (67, List.drop 19 mC67, [.ref a0], [.ref a0], μ)) rfl ?_
      refine gGet (is := List.drop 20 mC67) (v := .ref (mP μ a0 6)) h1 rfl ?_
      refine mGo.steps 1 (c' := (67, List.drop 21 mC67, [.ref a0], [.ref a0, .ref (mP μ a0 6)], μ)) rfl ?_
      refine gGet (is := List.drop 22 mC67) (v := .int (mI μ a0 9)) h1 rfl ?_
      obtain ⟨h9, hr⟩ := mIf hr
      refine gIald (is := List.drop 23 mC67) h9 ?_
      refine mGo.steps 1 (c' := (67, List.drop 24 mC67, [.ref a0], [.int 4, .int (mI μ (mP μ a0 6) (Int32.toNatClampNeg (mI μ a0 9)))], μ)) rfl ?_
      rcases mIte hr with ⟨h10, hr⟩ | ⟨h10, hr⟩
      · refine gBrT (p := 4 ≤ (mI μ (mP μ a0 6) (Int32.toNatClampNeg (mI μ a0 9)))) (y := 67) (is := List.drop 25 mC67) (L := [.ref a0]) (st := []) (μ := μ) (t := 54) rfl h10 ?_
        exact t67_27 μ a0 (.ref a0) rfl hr hC
      · refine gBrF (p := 4 ≤ (mI μ (mP μ a0 6) (Int32.toNatClampNeg (mI μ a0 9)))) (y := 67) (is := List.drop 25 mC67) (L := [.ref a0]) (st := []) (μ := μ) (t := 54) rfl h10 ?_
        refine mGo.steps 2 (c' := (67, List.drop 28 mC67, [.ref a0], [.int 1], μ)) rfl ?_
        exact t67_28 μ a0 1 (.ref a0) rfl hr hC

/-! 66: TunnelFabric$Plan.acceptsRouter(I)Z -/
def s66_14 (a0 : Nat) (a1 : Int32) (μ : mM) : Option (Int32 × mM) :=
  some (0, μ)
set_option maxRecDepth 20000 in
theorem t66_14 (a0 : Nat) (a1 : Int32) (μ : mM) (w0 : Value) (hw0 : mNotL w0 = true) (w1 : Value) (hw1 : mNotL w1 = true) {o : (Int32 × mM)} {r : Option Value × mM} (hr : s66_14 a0 a1 μ = some o) (hC : r = (some (.int o.1), o.2)) : mGo mG (66, List.drop 14 mC66, [w0, w1], [], μ) r := by
  unfold s66_14 at hr
  refine mGo.steps 1 (c' := (66, List.drop 15 mC66, [w0, w1], [.int 0], μ)) rfl ?_
  obtain rfl := Option.some.inj hr
  rw [show r = _ from hC]
  exact gZret rfl (by decide)
def s66 (μ : mM) (a0 : Nat) (a1 : Int32) : Option (Int32 × mM) :=
  if (mS μ a0).1 = 3 then if ¬ (mI μ a0 10) = 0 then (s66_14 a0 a1 μ) else ((s131 μ ((mI μ a0 8) + 1) 1 7).bind fun q2 => if q2 = 0 then (s66_14 a0 a1 μ) else ((s67 μ a0).bind fun q4 => if ¬ q4 = 0 then ((some (mUI μ a0 8 ((mI μ a0 8) + 1))).bind fun μ6 => if (mS μ6 (mP μ6 a0 2)).1 = 10 ∧ mInb (mI μ6 a0 8) (mS μ6 (mP μ6 a0 2)).2 then (some (mUI μ6 (mP μ6 a0 2) (Int32.toNatClampNeg (mI μ6 a0 8)) a1)).bind fun μ8 => if (mS μ8 (mP μ8 a0 4)).1 = 10 ∧ mInb (mI μ8 a0 8) (mS μ8 (mP μ8 a0 4)).2 then (some (mUI μ8 (mP μ8 a0 4) (Int32.toNatClampNeg (mI μ8 a0 8)) (mI μ8 a0 9))).bind fun μ10 => if (mS μ10 (mP μ10 a0 7)).1 = 10 ∧ mInb (mI μ10 a0 9) (mS μ10 (mP μ10 a0 7)).2 then if (mS μ10 (mP μ10 a0 5)).1 = 10 ∧ mInb (mI μ10 a0 8) (mS μ10 (mP μ10 a0 5)).2 then (some (mUI μ10 (mP μ10 a0 5) (Int32.toNatClampNeg (mI μ10 a0 8)) (mI μ10 (mP μ10 a0 7) (Int32.toNatClampNeg (mI μ10 a0 9))))).bind fun μ13 => if (mS μ13 (mP μ13 a0 6)).1 = 10 ∧ mInb (mI μ13 a0 9) (mS μ13 (mP μ13 a0 6)).2 then if (mS μ13 (mP μ13 a0 6)).1 = 10 ∧ mInb (mI μ13 a0 8) (mS μ13 (mP μ13 a0 6)).2 then (some (mUI μ13 (mP μ13 a0 6) (Int32.toNatClampNeg (mI μ13 a0 8)) ((mI μ13 (mP μ13 a0 6) (Int32.toNatClampNeg (mI μ13 a0 9))) + 1))).bind fun μ16 => if (mS μ16 (mP μ16 a0 7)).1 = 10 ∧ mInb (mI μ16 a0 8) (mS μ16 (mP μ16 a0 7)).2 then (some (mUI μ16 (mP μ16 a0 7) (Int32.toNatClampNeg (mI μ16 a0 8)) 0)).bind fun μ18 => if (mS μ18 (mP μ18 a0 7)).1 = 10 ∧ mInb (mI μ18 a0 9) (mS μ18 (mP μ18 a0 7)).2 then (some (mUI μ18 (mP μ18 a0 7) (Int32.toNatClampNeg (mI μ18 a0 9)) ((mI μ18 (mP μ18 a0 7) (Int32.toNatClampNeg (mI μ18 a0 9))) + 1))).bind fun μ20 => (some (mUI μ20 a0 10 1)).bind fun μ21 => (some (mUI μ21 a0 11 0)).bind fun μ22 => some (1, μ22) else none else none else none else none else none else none else none else none) else (s66_14 a0 a1 μ))) else none
set_option maxRecDepth 20000 in
theorem t66 {μ : mM} {a0 : Nat} {a1 : Int32} {o : (Int32 × mM)} (hr : s66 μ a0 a1 = some o) : mEv mG 66 [.ref a0, .int a1] μ (some (.int o.1)) (o.2) := by
  obtain ⟨r, hC⟩ : ∃ r : Option Value × mM, r = (some (.int o.1), o.2) := ⟨_, rfl⟩
  show mGo mG (66, List.drop 0 mC66, [.ref a0, .int a1], [], μ) (some (.int o.1), o.2)
  rw [← hC]
  unfold s66 at hr
  refine mGo.steps 1 (c' := (66, List.drop 1 mC66, [.ref a0, .int a1], [.ref a0], μ)) rfl ?_
  obtain ⟨h1, hr⟩ := mIf hr
  refine gGet (is := List.drop 2 mC66) (v := .int (mI μ a0 10)) h1 rfl ?_
  rcases mIte hr with ⟨h25, hr⟩ | ⟨h25, hr⟩
  · refine gBrT (p := ¬ (mI μ a0 10) = 0) (y := 66) (is := List.drop 3 mC66) (L := [.ref a0, .int a1]) (st := []) (μ := μ) (t := 29) rfl h25 ?_
    exact t66_14 a0 a1 μ (.ref a0) rfl (.int a1) rfl hr hC
  · refine gBrF (p := ¬ (mI μ a0 10) = 0) (y := 66) (is := List.drop 3 mC66) (L := [.ref a0, .int a1]) (st := []) (μ := μ) (t := 29) rfl h25 ?_
    refine mGo.steps 1 (c' := (66, List.drop 4 mC66, [.ref a0, .int a1], [.ref a0], μ)) rfl ?_
    refine gGet (is := List.drop 5 mC66) (v := .int (mI μ a0 8)) h1 rfl ?_
    refine mGo.steps 4 (c' := (66, List.drop 9 mC66, [.ref a0, .int a1], [.int 7, .int 1, .int ((mI μ a0 8) + 1)], μ)) rfl ?_
    obtain ⟨q2, h3, hr⟩ := mBi hr
    refine mGo.call (z := 131) (as := [.int ((mI μ a0 8) + 1), .int 1, .int 7]) (y := 66) (is := List.drop 10 mC66) (L := [.ref a0, .int a1]) (st := []) (μ := μ) rfl (t131 h3) ?_
    rcases mIte hr with ⟨h24, hr⟩ | ⟨h24, hr⟩
    · refine gBrT (p := q2 = 0) (y := 66) (is := List.drop 11 mC66) (L := [.ref a0, .int a1]) (st := []) (μ := μ) (t := 29) rfl h24 ?_
      exact t66_14 a0 a1 μ (.ref a0) rfl (.int a1) rfl hr hC
    · refine gBrF (p := q2 = 0) (y := 66) (is := List.drop 11 mC66) (L := [.ref a0, .int a1]) (st := []) (μ := μ) (t := 29) rfl h24 ?_
      refine mGo.steps 1 (c' := (66, List.drop 12 mC66, [.ref a0, .int a1], [.ref a0], μ)) rfl ?_
      obtain ⟨q4, h5, hr⟩ := mBi hr
      refine gCall (z := 67) (n := 0) (f := 0) (kind := 1) (a := a0) (As := []) (y := 66) (is := List.drop 13 mC66) (L := [.ref a0, .int a1]) (rest := []) (μ := μ) rfl (by decide) (by decide) ⟨rfl, rfl⟩ rfl h1 (Nat.le_of_ble_eq_true rfl) (Nat.le_of_ble_eq_true rfl) (t67 h5) ?_
      rcases mIte hr with ⟨h23, hr⟩ | ⟨h23, hr⟩
      · refine gBrT (p := ¬ q4 = 0) (y := 66) (is := List.drop 14 mC66) (L := [.ref a0, .int a1]) (st := []) (μ := μ) (t := 31) rfl h23 ?_
        refine mGo.steps 2 (c' := (66, List.drop 18 mC66, [.ref a0, .int a1], [.ref a0, .ref a0], μ)) rfl ?_
        refine gGet (is := List.drop 19 mC66) (v := .int (mI μ a0 8)) h1 rfl ?_
        refine mGo.steps 2 (c' := (66, List.drop 21 mC66, [.ref a0, .int a1], [.int ((mI μ a0 8) + 1), .ref a0], μ)) rfl ?_
        replace hr := mBs hr
        refine gPut (is := List.drop 22 mC66) (μ' := mUI μ a0 8 ((mI μ a0 8) + 1)) h1 rfl ?_
        let μ6 : mM := mUI μ a0 8 ((mI μ a0 8) + 1)
        refine mGo.steps 1 (c' := (66, List.drop 23 mC66, [.ref a0, .int a1], [.ref a0], μ6)) rfl ?_
        refine gGet (is := List.drop 24 mC66) (v := .ref (mP μ6 a0 2)) h1 rfl ?_
        refine mGo.steps 1 (c' := (66, List.drop 25 mC66, [.ref a0, .int a1], [.ref a0, .ref (mP μ6 a0 2)], μ6)) rfl ?_
        refine gGet (is := List.drop 26 mC66) (v := .int (mI μ6 a0 8)) h1 rfl ?_
        refine mGo.steps 1 (c' := (66, List.drop 27 mC66, [.ref a0, .int a1], [.int a1, .int (mI μ6 a0 8), .ref (mP μ6 a0 2)], μ6)) rfl ?_
        obtain ⟨h7, hr⟩ := mIf hr
        replace hr := mBs hr
        refine gIast (is := List.drop 28 mC66) h7 ?_
        let μ8 : mM := mUI μ6 (mP μ6 a0 2) (Int32.toNatClampNeg (mI μ6 a0 8)) a1
        refine mGo.steps 1 (c' := (66, List.drop 29 mC66, [.ref a0, .int a1], [.ref a0], μ8)) rfl ?_
        refine gGet (is := List.drop 30 mC66) (v := .ref (mP μ8 a0 4)) h1 rfl ?_
        refine mGo.steps 1 (c' := (66, List.drop 31 mC66, [.ref a0, .int a1], [.ref a0, .ref (mP μ8 a0 4)], μ8)) rfl ?_
        refine gGet (is := List.drop 32 mC66) (v := .int (mI μ8 a0 8)) h1 rfl ?_
        refine mGo.steps 1 (c' := (66, List.drop 33 mC66, [.ref a0, .int a1], [.ref a0, .int (mI μ8 a0 8), .ref (mP μ8 a0 4)], μ8)) rfl ?_
        refine gGet (is := List.drop 34 mC66) (v := .int (mI μ8 a0 9)) h1 rfl ?_
        obtain ⟨h9, hr⟩ := mIf hr
        replace hr := mBs hr
        refine gIast (is := List.drop 35 mC66) h9 ?_
        let μ10 : mM := mUI μ8 (mP μ8 a0 4) (Int32.toNatClampNeg (mI μ8 a0 8)) (mI μ8 a0 9)
        refine mGo.steps 1 (c' := (66, List.drop 36 mC66, [.ref a0, .int a1], [.ref a0], μ10)) rfl ?_
        refine gGet (is := List.drop 37 mC66) (v := .ref (mP μ10 a0 5)) h1 rfl ?_
        refine mGo.steps 1 (c' := (66, List.drop 38 mC66, [.ref a0, .int a1], [.ref a0, .ref (mP μ10 a0 5)], μ10)) rfl ?_
        refine gGet (is := List.drop 39 mC66) (v := .int (mI μ10 a0 8)) h1 rfl ?_
        refine mGo.steps 1 (c' := (66, List.drop 40 mC66, [.ref a0, .int a1], [.ref a0, .int (mI μ10 a0 8), .ref (mP μ10 a0 5)], μ10)) rfl ?_
        refine gGet (is := List.drop 41 mC66) (v := .ref (mP μ10 a0 7)) h1 rfl ?_
        refine mGo.steps 1 (c' := (66, List.drop 42 mC66, [.ref a0, .int a1], [.ref a0, .ref (mP μ10 a0 7), .int (mI μ10 a0 8), .ref (mP μ10 a0 5)], μ10)) rfl ?_
        refine gGet (is := List.drop 43 mC66) (v := .int (mI μ10 a0 9)) h1 rfl ?_
        obtain ⟨h11, hr⟩ := mIf hr
        refine gIald (is := List.drop 44 mC66) h11 ?_
        obtain ⟨h12, hr⟩ := mIf hr
        replace hr := mBs hr
        refine gIast (is := List.drop 45 mC66) h12 ?_
        let μ13 : mM := mUI μ10 (mP μ10 a0 5) (Int32.toNatClampNeg (mI μ10 a0 8)) (mI μ10 (mP μ10 a0 7) (Int32.toNatClampNeg (mI μ10 a0 9)))
        refine mGo.steps 1 (c' := (66, List.drop 46 mC66, [.ref a0, .int a1], [.ref a0], μ13)) rfl ?_
        refine gGet (is := List.drop 47 mC66) (v := .ref (mP μ13 a0 6)) h1 rfl ?_
        refine mGo.steps 1 (c' := (66, List.drop 48 mC66, [.ref a0, .int a1], [.ref a0, .ref (mP μ13 a0 6)], μ13)) rfl ?_
        refine gGet (is := List.drop 49 mC66) (v := .int (mI μ13 a0 8)) h1 rfl ?_
        refine mGo.steps 1 (c' := (66, List.drop 50 mC66, [.ref a0, .int a1], [.ref a0, .int (mI μ13 a0 8), .ref (mP μ13 a0 6)], μ13)) rfl ?_
        refine gGet (is := List.drop 51 mC66) (v := .ref (mP μ13 a0 6)) h1 rfl ?_
        refine mGo.steps 1 (c' := (66, List.drop 52 mC66, [.ref a0, .int a1], [.ref a0, .ref (mP μ13 a0 6), .int (mI μ13 a0 8), .ref (mP μ13 a0 6)], μ13)) rfl ?_
        refine gGet (is := List.drop 53 mC66) (v := .int (mI μ13 a0 9)) h1 rfl ?_
        obtain ⟨h14, hr⟩ := mIf hr
        refine gIald (is := List.drop 54 mC66) h14 ?_
        refine mGo.steps 2 (c' := (66, List.drop 56 mC66, [.ref a0, .int a1], [.int ((mI μ13 (mP μ13 a0 6) (Int32.toNatClampNeg (mI μ13 a0 9))) + 1), .int (mI μ13 a0 8), .ref (mP μ13 a0 6)], μ13)) rfl ?_
        obtain ⟨h15, hr⟩ := mIf hr
        replace hr := mBs hr
        refine gIast (is := List.drop 57 mC66) h15 ?_
        let μ16 : mM := mUI μ13 (mP μ13 a0 6) (Int32.toNatClampNeg (mI μ13 a0 8)) ((mI μ13 (mP μ13 a0 6) (Int32.toNatClampNeg (mI μ13 a0 9))) + 1)
        refine mGo.steps 1 (c' := (66, List.drop 58 mC66, [.ref a0, .int a1], [.ref a0], μ16)) rfl ?_
        refine gGet (is := List.drop 59 mC66) (v := .ref (mP μ16 a0 7)) h1 rfl ?_
        refine mGo.steps 1 (c' := (66, List.drop 60 mC66, [.ref a0, .int a1], [.ref a0, .ref (mP μ16 a0 7)], μ16)) rfl ?_
        refine gGet (is := List.drop 61 mC66) (v := .int (mI μ16 a0 8)) h1 rfl ?_
        refine mGo.steps 1 (c' := (66, List.drop 62 mC66, [.ref a0, .int a1], [.int 0, .int (mI μ16 a0 8), .ref (mP μ16 a0 7)], μ16)) rfl ?_
        obtain ⟨h17, hr⟩ := mIf hr
        replace hr := mBs hr
        refine gIast (is := List.drop 63 mC66) h17 ?_
        let μ18 : mM := mUI μ16 (mP μ16 a0 7) (Int32.toNatClampNeg (mI μ16 a0 8)) 0
        refine mGo.steps 1 (c' := (66, List.drop 64 mC66, [.ref a0, .int a1], [.ref a0], μ18)) rfl ?_
        refine gGet (is := List.drop 65 mC66) (v := .ref (mP μ18 a0 7)) h1 rfl ?_
        refine mGo.steps 1 (c' := (66, List.drop 66 mC66, [.ref a0, .int a1], [.ref a0, .ref (mP μ18 a0 7)], μ18)) rfl ?_
        refine gGet (is := List.drop 67 mC66) (v := .int (mI μ18 a0 9)) h1 rfl ?_
        refine mGo.steps 1 (c' := (66, List.drop 68 mC66, [.ref a0, .int a1], [.int (mI μ18 a0 9), .ref (mP μ18 a0 7), .int (mI μ18 a0 9), .ref (mP μ18 a0 7)], μ18)) rfl ?_
        obtain ⟨h19, hr⟩ := mIf hr
        refine gIald (is := List.drop 69 mC66) h19 ?_
        refine mGo.steps 2 (c' := (66, List.drop 71 mC66, [.ref a0, .int a1], [.int ((mI μ18 (mP μ18 a0 7) (Int32.toNatClampNeg (mI μ18 a0 9))) + 1), .int (mI μ18 a0 9), .ref (mP μ18 a0 7)], μ18)) rfl ?_
        replace hr := mBs hr
        refine gIast (is := List.drop 72 mC66) h19 ?_
        let μ20 : mM := mUI μ18 (mP μ18 a0 7) (Int32.toNatClampNeg (mI μ18 a0 9)) ((mI μ18 (mP μ18 a0 7) (Int32.toNatClampNeg (mI μ18 a0 9))) + 1)
        refine mGo.steps 2 (c' := (66, List.drop 74 mC66, [.ref a0, .int a1], [.int 1, .ref a0], μ20)) rfl ?_
        replace hr := mBs hr
        refine gPut (is := List.drop 75 mC66) (μ' := mUI μ20 a0 10 1) h1 (gZ (by decide)) ?_
        let μ21 : mM := mUI μ20 a0 10 1
        refine mGo.steps 2 (c' := (66, List.drop 77 mC66, [.ref a0, .int a1], [.int 0, .ref a0], μ21)) rfl ?_
        replace hr := mBs hr
        refine gPut (is := List.drop 78 mC66) (μ' := mUI μ21 a0 11 0) h1 (gZ (by decide)) ?_
        let μ22 : mM := mUI μ21 a0 11 0
        refine mGo.steps 1 (c' := (66, List.drop 79 mC66, [.ref a0, .int a1], [.int 1], μ22)) rfl ?_
        obtain rfl := Option.some.inj hr
        rw [show r = _ from hC]
        exact gZret rfl (by decide)
      · refine gBrF (p := ¬ q4 = 0) (y := 66) (is := List.drop 14 mC66) (L := [.ref a0, .int a1]) (st := []) (μ := μ) (t := 31) rfl h23 ?_
        exact t66_14 a0 a1 μ (.ref a0) rfl (.int a1) rfl hr hC

/-! 68: TunnelFabric$Plan.acceptsGeneration(I)Z -/
def s68_9 (a0 : Nat) (a1 : Int32) (μ : mM) : Option (Int32 × mM) :=
  some (0, μ)
set_option maxRecDepth 20000 in
theorem t68_9 (a0 : Nat) (a1 : Int32) (μ : mM) (w0 : Value) (hw0 : mNotL w0 = true) (w1 : Value) (hw1 : mNotL w1 = true) {o : (Int32 × mM)} {r : Option Value × mM} (hr : s68_9 a0 a1 μ = some o) (hC : r = (some (.int o.1), o.2)) : mGo mG (68, List.drop 9 mC68, [w0, w1], [], μ) r := by
  unfold s68_9 at hr
  refine mGo.steps 1 (c' := (68, List.drop 10 mC68, [w0, w1], [.int 0], μ)) rfl ?_
  obtain rfl := Option.some.inj hr
  rw [show r = _ from hC]
  exact gZret rfl (by decide)
def s68 (μ : mM) (a0 : Nat) (a1 : Int32) : Option (Int32 × mM) :=
  if (mS μ a0).1 = 3 then if (mI μ a0 10) = 0 then (s68_9 a0 a1 μ) else ((s131 μ (mI μ a0 8) 1 7).bind fun q2 => if ¬ q2 = 0 then (if (mS μ (mP μ a0 3)).1 = 10 ∧ mInb (mI μ a0 8) (mS μ (mP μ a0 3)).2 then (some (mUI μ (mP μ a0 3) (Int32.toNatClampNeg (mI μ a0 8)) a1)).bind fun μ5 => (some (mUI μ5 a0 10 0)).bind fun μ6 => (some (mUI μ6 a0 11 1)).bind fun μ7 => some (1, μ7) else none) else (s68_9 a0 a1 μ)) else none
set_option maxRecDepth 20000 in
theorem t68 {μ : mM} {a0 : Nat} {a1 : Int32} {o : (Int32 × mM)} (hr : s68 μ a0 a1 = some o) : mEv mG 68 [.ref a0, .int a1] μ (some (.int o.1)) (o.2) := by
  obtain ⟨r, hC⟩ : ∃ r : Option Value × mM, r = (some (.int o.1), o.2) := ⟨_, rfl⟩
  show mGo mG (68, List.drop 0 mC68, [.ref a0, .int a1], [], μ) (some (.int o.1), o.2)
  rw [← hC]
  unfold s68 at hr
  refine mGo.steps 1 (c' := (68, List.drop 1 mC68, [.ref a0, .int a1], [.ref a0], μ)) rfl ?_
  obtain ⟨h1, hr⟩ := mIf hr
  refine gGet (is := List.drop 2 mC68) (v := .int (mI μ a0 10)) h1 rfl ?_
  rcases mIte hr with ⟨h9, hr⟩ | ⟨h9, hr⟩
  · refine gBrT (p := (mI μ a0 10) = 0) (y := 68) (is := List.drop 3 mC68) (L := [.ref a0, .int a1]) (st := []) (μ := μ) (t := 20) rfl h9 ?_
    exact t68_9 a0 a1 μ (.ref a0) rfl (.int a1) rfl hr hC
  · refine gBrF (p := (mI μ a0 10) = 0) (y := 68) (is := List.drop 3 mC68) (L := [.ref a0, .int a1]) (st := []) (μ := μ) (t := 20) rfl h9 ?_
    refine mGo.steps 1 (c' := (68, List.drop 4 mC68, [.ref a0, .int a1], [.ref a0], μ)) rfl ?_
    refine gGet (is := List.drop 5 mC68) (v := .int (mI μ a0 8)) h1 rfl ?_
    refine mGo.steps 2 (c' := (68, List.drop 7 mC68, [.ref a0, .int a1], [.int 7, .int 1, .int (mI μ a0 8)], μ)) rfl ?_
    obtain ⟨q2, h3, hr⟩ := mBi hr
    refine mGo.call (z := 131) (as := [.int (mI μ a0 8), .int 1, .int 7]) (y := 68) (is := List.drop 8 mC68) (L := [.ref a0, .int a1]) (st := []) (μ := μ) rfl (t131 h3) ?_
    rcases mIte hr with ⟨h8, hr⟩ | ⟨h8, hr⟩
    · refine gBrT (p := ¬ q2 = 0) (y := 68) (is := List.drop 9 mC68) (L := [.ref a0, .int a1]) (st := []) (μ := μ) (t := 22) rfl h8 ?_
      refine mGo.steps 1 (c' := (68, List.drop 12 mC68, [.ref a0, .int a1], [.ref a0], μ)) rfl ?_
      refine gGet (is := List.drop 13 mC68) (v := .ref (mP μ a0 3)) h1 rfl ?_
      refine mGo.steps 1 (c' := (68, List.drop 14 mC68, [.ref a0, .int a1], [.ref a0, .ref (mP μ a0 3)], μ)) rfl ?_
      refine gGet (is := List.drop 15 mC68) (v := .int (mI μ a0 8)) h1 rfl ?_
      refine mGo.steps 1 (c' := (68, List.drop 16 mC68, [.ref a0, .int a1], [.int a1, .int (mI μ a0 8), .ref (mP μ a0 3)], μ)) rfl ?_
      obtain ⟨h4, hr⟩ := mIf hr
      replace hr := mBs hr
      refine gIast (is := List.drop 17 mC68) h4 ?_
      let μ5 : mM := mUI μ (mP μ a0 3) (Int32.toNatClampNeg (mI μ a0 8)) a1
      refine mGo.steps 2 (c' := (68, List.drop 19 mC68, [.ref a0, .int a1], [.int 0, .ref a0], μ5)) rfl ?_
      replace hr := mBs hr
      refine gPut (is := List.drop 20 mC68) (μ' := mUI μ5 a0 10 0) h1 (gZ (by decide)) ?_
      let μ6 : mM := mUI μ5 a0 10 0
      refine mGo.steps 2 (c' := (68, List.drop 22 mC68, [.ref a0, .int a1], [.int 1, .ref a0], μ6)) rfl ?_
      replace hr := mBs hr
      refine gPut (is := List.drop 23 mC68) (μ' := mUI μ6 a0 11 1) h1 (gZ (by decide)) ?_
      let μ7 : mM := mUI μ6 a0 11 1
      refine mGo.steps 1 (c' := (68, List.drop 24 mC68, [.ref a0, .int a1], [.int 1], μ7)) rfl ?_
      obtain rfl := Option.some.inj hr
      rw [show r = _ from hC]
      exact gZret rfl (by decide)
    · refine gBrF (p := ¬ q2 = 0) (y := 68) (is := List.drop 9 mC68) (L := [.ref a0, .int a1]) (st := []) (μ := μ) (t := 22) rfl h8 ?_
      exact t68_9 a0 a1 μ (.ref a0) rfl (.int a1) rfl hr hC

/-! 63: TunnelFabric$Plan.accepts(I)Z -/
def s63 (μ : mM) (a0 : Nat) (a1 : Int32) : Option (Int32 × mM) :=
  if a1 = 32 then (some (1, μ)) else (if a1 = 40 then (if (mS μ a0).1 = 3 then (s64 μ a0).bind fun q3 => if q3.1 = 0 ∨ q3.1 = 1 then some (q3.1, q3.2) else none else none) else (if a1 = 41 then (if (mS μ a0).1 = 3 then (s65 μ a0).bind fun q8 => if q8.1 = 0 ∨ q8.1 = 1 then some (q8.1, q8.2) else none else none) else (if a1 = 49 then (if (mS μ a0).1 = 3 then (s68 μ a0 1).bind fun q13 => if q13.1 = 0 ∨ q13.1 = 1 then some (q13.1, q13.2) else none else none) else (if a1 = 50 then (if (mS μ a0).1 = 3 then (s68 μ a0 2).bind fun q18 => if q18.1 = 0 ∨ q18.1 = 1 then some (q18.1, q18.2) else none else none) else (if a1 = 51 then (if (mS μ a0).1 = 3 then (s68 μ a0 3).bind fun q23 => if q23.1 = 0 ∨ q23.1 = 1 then some (q23.1, q23.2) else none else none) else (if a1 = 100 then (if (mS μ a0).1 = 3 then (s66 μ a0 2).bind fun q28 => if q28.1 = 0 ∨ q28.1 = 1 then some (q28.1, q28.2) else none else none) else (if a1 = 104 then (if (mS μ a0).1 = 3 then (s66 μ a0 0).bind fun q33 => if q33.1 = 0 ∨ q33.1 = 1 then some (q33.1, q33.2) else none else none) else (if a1 = 110 then (if (mS μ a0).1 = 3 then (s66 μ a0 3).bind fun q38 => if q38.1 = 0 ∨ q38.1 = 1 then some (q38.1, q38.2) else none else none) else (if a1 = 115 then (if (mS μ a0).1 = 3 then (s66 μ a0 1).bind fun q43 => if q43.1 = 0 ∨ q43.1 = 1 then some (q43.1, q43.2) else none else none) else (some (0, μ)))))))))))
set_option maxRecDepth 20000 in
theorem t63 {μ : mM} {a0 : Nat} {a1 : Int32} {o : (Int32 × mM)} (hr : s63 μ a0 a1 = some o) : mEv mG 63 [.ref a0, .int a1] μ (some (.int o.1)) (o.2) := by
  obtain ⟨r, hC⟩ : ∃ r : Option Value × mM, r = (some (.int o.1), o.2) := ⟨_, rfl⟩
  show mGo mG (63, List.drop 0 mC63, [.ref a0, .int a1], [], μ) (some (.int o.1), o.2)
  rw [← hC]
  unfold s63 at hr
  refine mGo.steps 1 (c' := (63, List.drop 1 mC63, [.ref a0, .int a1], [.int a1], μ)) rfl ?_
  refine mGo.steps 1 (c' := (63, mSeek (mLs a1 [(32, 91), (40, 93), (41, 98), (49, 127), (50, 133), (51, 139), (100, 115), (104, 103), (110, 121), (115, 109)] [92, 94, 99, 128, 134, 140, 116, 104, 122, 110] 146) (rC (mG 63)), [.ref a0, .int a1], [], μ)) rfl ?_
  rcases mIte hr with ⟨h1, hr⟩ | ⟨h1, hr⟩
  · refine gLs1 (w := 32) h1 rfl ?_
    refine mGo.steps 1 (c' := (63, List.drop 3 mC63, [.ref a0, .int a1], [.int 1], μ)) rfl ?_
    obtain rfl := Option.some.inj hr
    rw [show r = _ from hC]
    exact gZret rfl (by decide)
  · refine gLs0 (w := 32) h1 rfl ?_
    rcases mIte hr with ⟨h6, hr⟩ | ⟨h6, hr⟩
    · refine gLs1 (w := 40) h6 rfl ?_
      refine mGo.steps 1 (c' := (63, List.drop 5 mC63, [.ref a0, .int a1], [.ref a0], μ)) rfl ?_
      obtain ⟨h2, hr⟩ := mIf hr
      obtain ⟨q3, h4, hr⟩ := mBi hr
      refine gCall (z := 64) (n := 0) (f := 0) (kind := 1) (a := a0) (As := []) (y := 63) (is := List.drop 6 mC63) (L := [.ref a0, .int a1]) (rest := []) (μ := μ) rfl (by decide) (by decide) ⟨rfl, rfl⟩ rfl h2 (Nat.le_of_ble_eq_true rfl) (Nat.le_of_ble_eq_true rfl) (t64 h4) ?_
      obtain ⟨h5, hr⟩ := mIf hr
      obtain rfl := Option.some.inj hr
      rw [show r = _ from hC]
      exact gZret rfl h5
    · refine gLs0 (w := 40) h6 rfl ?_
      rcases mIte hr with ⟨h11, hr⟩ | ⟨h11, hr⟩
      · refine gLs1 (w := 41) h11 rfl ?_
        refine mGo.steps 1 (c' := (63, List.drop 8 mC63, [.ref a0, .int a1], [.ref a0], μ)) rfl ?_
        obtain ⟨h7, hr⟩ := mIf hr
        obtain ⟨q8, h9, hr⟩ := mBi hr
        refine gCall (z := 65) (n := 0) (f := 0) (kind := 1) (a := a0) (As := []) (y := 63) (is := List.drop 9 mC63) (L := [.ref a0, .int a1]) (rest := []) (μ := μ) rfl (by decide) (by decide) ⟨rfl, rfl⟩ rfl h7 (Nat.le_of_ble_eq_true rfl) (Nat.le_of_ble_eq_true rfl) (t65 h9) ?_
        obtain ⟨h10, hr⟩ := mIf hr
        obtain rfl := Option.some.inj hr
        rw [show r = _ from hC]
        exact gZret rfl h10
      · refine gLs0 (w := 41) h11 rfl ?_
        rcases mIte hr with ⟨h16, hr⟩ | ⟨h16, hr⟩
        · refine gLs1 (w := 49) h16 rfl ?_
          refine mGo.steps 2 (c' := (63, List.drop 28 mC63, [.ref a0, .int a1], [.int 1, .ref a0], μ)) rfl ?_
          obtain ⟨h12, hr⟩ := mIf hr
          obtain ⟨q13, h14, hr⟩ := mBi hr
          refine gCall (z := 68) (n := 1) (f := 0) (kind := 1) (a := a0) (As := [.int 1]) (y := 63) (is := List.drop 29 mC63) (L := [.ref a0, .int a1]) (rest := []) (μ := μ) rfl (by decide) (by decide) ⟨rfl, rfl⟩ rfl h12 (Nat.le_of_ble_eq_true rfl) (Nat.le_of_ble_eq_true rfl) (t68 h14) ?_
          obtain ⟨h15, hr⟩ := mIf hr
          obtain rfl := Option.some.inj hr
          rw [show r = _ from hC]
          exact gZret rfl h15
        · refine gLs0 (w := 49) h16 rfl ?_
          rcases mIte hr with ⟨h21, hr⟩ | ⟨h21, hr⟩
          · refine gLs1 (w := 50) h21 rfl ?_
            refine mGo.steps 2 (c' := (63, List.drop 32 mC63, [.ref a0, .int a1], [.int 2, .ref a0], μ)) rfl ?_
            obtain ⟨h17, hr⟩ := mIf hr
            obtain ⟨q18, h19, hr⟩ := mBi hr
            refine gCall (z := 68) (n := 1) (f := 0) (kind := 1) (a := a0) (As := [.int 2]) (y := 63) (is := List.drop 33 mC63) (L := [.ref a0, .int a1]) (rest := []) (μ := μ) rfl (by decide) (by decide) ⟨rfl, rfl⟩ rfl h17 (Nat.le_of_ble_eq_true rfl) (Nat.le_of_ble_eq_true rfl) (t68 h19) ?_
            obtain ⟨h20, hr⟩ := mIf hr
            obtain rfl := Option.some.inj hr
            rw [show r = _ from hC]
            exact gZret rfl h20
          · refine gLs0 (w := 50) h21 rfl ?_
            rcases mIte hr with ⟨h26, hr⟩ | ⟨h26, hr⟩
            · refine gLs1 (w := 51) h26 rfl ?_
              refine mGo.steps 2 (c' := (63, List.drop 36 mC63, [.ref a0, .int a1], [.int 3, .ref a0], μ)) rfl ?_
              obtain ⟨h22, hr⟩ := mIf hr
              obtain ⟨q23, h24, hr⟩ := mBi hr
              refine gCall (z := 68) (n := 1) (f := 0) (kind := 1) (a := a0) (As := [.int 3]) (y := 63) (is := List.drop 37 mC63) (L := [.ref a0, .int a1]) (rest := []) (μ := μ) rfl (by decide) (by decide) ⟨rfl, rfl⟩ rfl h22 (Nat.le_of_ble_eq_true rfl) (Nat.le_of_ble_eq_true rfl) (t68 h24) ?_
              obtain ⟨h25, hr⟩ := mIf hr
              obtain rfl := Option.some.inj hr
              rw [show r = _ from hC]
              exact gZret rfl h25
            · refine gLs0 (w := 51) h26 rfl ?_
              rcases mIte hr with ⟨h31, hr⟩ | ⟨h31, hr⟩
              · refine gLs1 (w := 100) h31 rfl ?_
                refine mGo.steps 2 (c' := (63, List.drop 20 mC63, [.ref a0, .int a1], [.int 2, .ref a0], μ)) rfl ?_
                obtain ⟨h27, hr⟩ := mIf hr
                obtain ⟨q28, h29, hr⟩ := mBi hr
                refine gCall (z := 66) (n := 1) (f := 0) (kind := 1) (a := a0) (As := [.int 2]) (y := 63) (is := List.drop 21 mC63) (L := [.ref a0, .int a1]) (rest := []) (μ := μ) rfl (by decide) (by decide) ⟨rfl, rfl⟩ rfl h27 (Nat.le_of_ble_eq_true rfl) (Nat.le_of_ble_eq_true rfl) (t66 h29) ?_
                obtain ⟨h30, hr⟩ := mIf hr
                obtain rfl := Option.some.inj hr
                rw [show r = _ from hC]
                exact gZret rfl h30
              · refine gLs0 (w := 100) h31 rfl ?_
                rcases mIte hr with ⟨h36, hr⟩ | ⟨h36, hr⟩
                · refine gLs1 (w := 104) h36 rfl ?_
                  refine mGo.steps 2 (c' := (63, List.drop 12 mC63, [.ref a0, .int a1], [.int 0, .ref a0], μ)) rfl ?_
                  obtain ⟨h32, hr⟩ := mIf hr
                  obtain ⟨q33, h34, hr⟩ := mBi hr
                  refine gCall (z := 66) (n := 1) (f := 0) (kind := 1) (a := a0) (As := [.int 0]) (y := 63) (is := List.drop 13 mC63) (L := [.ref a0, .int a1]) (rest := []) (μ := μ) rfl (by decide) (by decide) ⟨rfl, rfl⟩ rfl h32 (Nat.le_of_ble_eq_true rfl) (Nat.le_of_ble_eq_true rfl) (t66 h34) ?_
                  obtain ⟨h35, hr⟩ := mIf hr
                  obtain rfl := Option.some.inj hr
                  rw [show r = _ from hC]
                  exact gZret rfl h35
                · refine gLs0 (w := 104) h36 rfl ?_
                  rcases mIte hr with ⟨h41, hr⟩ | ⟨h41, hr⟩
                  · refine gLs1 (w := 110) h41 rfl ?_
                    refine mGo.steps 2 (c' := (63, List.drop 24 mC63, [.ref a0, .int a1], [.int 3, .ref a0], μ)) rfl ?_
                    obtain ⟨h37, hr⟩ := mIf hr
                    obtain ⟨q38, h39, hr⟩ := mBi hr
                    refine gCall (z := 66) (n := 1) (f := 0) (kind := 1) (a := a0) (As := [.int 3]) (y := 63) (is := List.drop 25 mC63) (L := [.ref a0, .int a1]) (rest := []) (μ := μ) rfl (by decide) (by decide) ⟨rfl, rfl⟩ rfl h37 (Nat.le_of_ble_eq_true rfl) (Nat.le_of_ble_eq_true rfl) (t66 h39) ?_
                    obtain ⟨h40, hr⟩ := mIf hr
                    obtain rfl := Option.some.inj hr
                    rw [show r = _ from hC]
                    exact gZret rfl h40
                  · refine gLs0 (w := 110) h41 rfl ?_
                    rcases mIte hr with ⟨h46, hr⟩ | ⟨h46, hr⟩
                    · refine gLs1 (w := 115) h46 rfl ?_
                      refine mGo.steps 2 (c' := (63, List.drop 16 mC63, [.ref a0, .int a1], [.int 1, .ref a0], μ)) rfl ?_
                      obtain ⟨h42, hr⟩ := mIf hr
                      obtain ⟨q43, h44, hr⟩ := mBi hr
                      refine gCall (z := 66) (n := 1) (f := 0) (kind := 1) (a := a0) (As := [.int 1]) (y := 63) (is := List.drop 17 mC63) (L := [.ref a0, .int a1]) (rest := []) (μ := μ) rfl (by decide) (by decide) ⟨rfl, rfl⟩ rfl h42 (Nat.le_of_ble_eq_true rfl) (Nat.le_of_ble_eq_true rfl) (t66 h44) ?_
                      obtain ⟨h45, hr⟩ := mIf hr
                      obtain rfl := Option.some.inj hr
                      rw [show r = _ from hC]
                      exact gZret rfl h45
                    · refine gLs0 (w := 115) h46 rfl ?_
                      refine mGo.steps 1 (c' := (63, List.drop 39 mC63, [.ref a0, .int a1], [.int 0], μ)) rfl ?_
                      obtain rfl := Option.some.inj hr
                      rw [show r = _ from hC]
                      exact gZret rfl (by decide)
