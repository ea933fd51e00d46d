/-! 11: TunnelFabric$Clock.carriesVideo(LTunnelFabric$Fabric;I)Z -/
def s11L2_20 (μ : mM) (p1 : Nat) (p2 : Int32) (v3 : Int32) : Option ((Int32) ⊕ ((Unit) ⊕ Int32)) :=
  some (.inl (v3 + 1))
set_option maxRecDepth 20000 in
theorem t11L2_20 (μ : mM) (p1 : Nat) (p2 : Int32) (v3 : Int32) (w0 : Value) (hw0 : mNotL w0 = true) {o : ((Int32) ⊕ ((Unit) ⊕ Int32))} {r : Option Value × mM} (hr : s11L2_20 μ p1 p2 v3 = some o) (hC : Sum.elim (fun s' : Int32 => ∀ (w0 : Value) (hw0 : mNotL w0 = true), mGo mG (11, List.drop 2 mC11, [w0, .ref p1, .int p2, .int s'], [], μ) r) (Sum.elim (fun x : Unit => ∀ (w0 : Value) (hw0 : mNotL w0 = true) (w1 : Value) (hw1 : mNotL w1 = true) (w2 : Value) (hw2 : mNotL w2 = true) (w3 : Value) (hw3 : mNotL w3 = true), mGo mG (11, List.drop 22 mC11, [w0, w1, w2, w3], [], μ) r) (fun y : Int32 => r = (some (.int y), μ))) o) : mGo mG (11, List.drop 20 mC11, [w0, .ref p1, .int p2, .int v3], [], μ) r := by
  unfold s11L2_20 at hr
  refine mGo.steps 2 (c' := (11, List.drop 2 mC11, [w0, .ref p1, .int p2, .int (v3 + 1)], [], μ)) rfl ?_
  obtain rfl := Option.some.inj hr
  exact hC w0 hw0
def s11L2 (μ : mM) (p1 : Nat) (p2 : Int32) (s : Int32) : Option ((Int32) ⊕ ((Unit) ⊕ Int32)) :=
  if 10 ≤ s then (some (.inr (.inl ()))) else (if (mS μ p1).1 = 1 then if (mS μ (mP μ p1 1)).1 = 20 + 6 ∧ mInb s (mS μ (mP μ p1 1)).2 then if (mS μ (mP μ (mP μ p1 1) (Int32.toNatClampNeg s))).1 = 6 then (s80 μ (mP μ (mP μ p1 1) (Int32.toNatClampNeg s))).bind fun q4 => if q4 = 0 then (s11L2_20 μ p1 p2 s) else ((s79 μ (mP μ (mP μ p1 1) (Int32.toNatClampNeg s)) p2).bind fun q6 => if q6 = 0 then (s11L2_20 μ p1 p2 s) else (some (.inr (.inr 1)))) else none else none else none)
set_option maxRecDepth 20000 in
theorem t11L2 (μ : mM) (p1 : Nat) (p2 : Int32) {r : Option Value × mM} (s : Int32) (o : ((Int32) ⊕ ((Unit) ⊕ Int32))) (hr : s11L2 μ p1 p2 s = some o) (hC : Sum.elim (fun s' : Int32 => ∀ (w0 : Value) (hw0 : mNotL w0 = true), mGo mG (11, List.drop 2 mC11, [w0, .ref p1, .int p2, .int s'], [], μ) r) (Sum.elim (fun x : Unit => ∀ (w0 : Value) (hw0 : mNotL w0 = true) (w1 : Value) (hw1 : mNotL w1 = true) (w2 : Value) (hw2 : mNotL w2 = true) (w3 : Value) (hw3 : mNotL w3 = true), mGo mG (11, List.drop 22 mC11, [w0, w1, w2, w3], [], μ) r) (fun y : Int32 => r = (some (.int y), μ))) o) : ∀ (w0 : Value) (hw0 : mNotL w0 = true), mGo mG (11, List.drop 2 mC11, [w0, .ref p1, .int p2, .int s], [], μ) r := by
  intro w0 hw0
  unfold s11L2 at hr
  refine mGo.steps 2 (c' := (11, List.drop 4 mC11, [w0, .ref p1, .int p2, .int s], [.int 10, .int s], μ)) rfl ?_
  rcases mIte hr with ⟨h10, hr⟩ | ⟨h10, hr⟩
  · refine gBrT (p := 10 ≤ s) (y := 11) (is := List.drop 5 mC11) (L := [w0, .ref p1, .int p2, .int s]) (st := []) (μ := μ) (t := 41) rfl h10 ?_
    obtain rfl := Option.some.inj hr
    exact hC w0 hw0 (.ref p1) rfl (.int p2) rfl (.int s) rfl
  · refine gBrF (p := 10 ≤ s) (y := 11) (is := List.drop 5 mC11) (L := [w0, .ref p1, .int p2, .int s]) (st := []) (μ := μ) (t := 41) rfl h10 ?_
    refine mGo.steps 1 (c' := (11, List.drop 6 mC11, [w0, .ref p1, .int p2, .int s], [.ref p1], μ)) rfl ?_
    obtain ⟨h1, hr⟩ := mIf hr
    refine gGet (is := List.drop 7 mC11) (v := .ref (mP μ p1 1)) h1 rfl ?_
    refine mGo.steps 1 (c' := (11, List.drop 8 mC11, [w0, .ref p1, .int p2, .int s], [.int s, .ref (mP μ p1 1)], μ)) rfl ?_
    obtain ⟨h2, hr⟩ := mIf hr
    refine gAald (is := List.drop 9 mC11) h2 ?_
    obtain ⟨h3, hr⟩ := mIf hr
    obtain ⟨q4, h5, hr⟩ := mBi hr
    refine gCall (z := 80) (n := 0) (f := 0) (kind := 1) (a := (mP μ (mP μ p1 1) (Int32.toNatClampNeg s))) (As := []) (y := 11) (is := List.drop 10 mC11) (L := [w0, .ref p1, .int p2, .int s]) (rest := []) (μ := μ) rfl (by decide) (by decide) ⟨rfl, rfl⟩ rfl h3 (Nat.le_of_ble_eq_true rfl) (Nat.le_of_ble_eq_true rfl) (t80 h5) ?_
    rcases mIte hr with ⟨h9, hr⟩ | ⟨h9, hr⟩
    · refine gBrT (p := q4 = 0) (y := 11) (is := List.drop 11 mC11) (L := [w0, .ref p1, .int p2, .int s]) (st := []) (μ := μ) (t := 35) rfl h9 ?_
      exact t11L2_20 μ p1 p2 s w0 hw0 hr hC
    · refine gBrF (p := q4 = 0) (y := 11) (is := List.drop 11 mC11) (L := [w0, .ref p1, .int p2, .int s]) (st := []) (μ := μ) (t := 35) rfl h9 ?_
      refine mGo.steps 1 (c' := (11, List.drop 12 mC11, [w0, .ref p1, .int p2, .int s], [.ref p1], μ)) rfl ?_
      refine gGet (is := List.drop 13 mC11) (v := .ref (mP μ p1 1)) h1 rfl ?_
      refine mGo.steps 1 (c' := (11, List.drop 14 mC11, [w0, .ref p1, .int p2, .int s], [.int s, .ref (mP μ p1 1)], μ)) rfl ?_
      refine gAald (is := List.drop 15 mC11) h2 ?_
      refine mGo.steps 1 (c' := (11, List.drop 16 mC11, [w0, .ref p1, .int p2, .int s], [.int p2, .ref (mP μ (mP μ p1 1) (Int32.toNatClampNeg s))], μ)) rfl ?_
      obtain ⟨q6, h7, hr⟩ := mBi hr
      refine gCall (z := 79) (n := 1) (f := 0) (kind := 1) (a := (mP μ (mP μ p1 1) (Int32.toNatClampNeg s))) (As := [.int p2]) (y := 11) (is := List.drop 17 mC11) (L := [w0, .ref p1, .int p2, .int s]) (rest := []) (μ := μ) rfl (by decide) (by decide) ⟨rfl, rfl⟩ rfl h3 (Nat.le_of_ble_eq_true rfl) (Nat.le_of_ble_eq_true rfl) (t79 h7) ?_
      rcases mIte hr with ⟨h8, hr⟩ | ⟨h8, hr⟩
      · refine gBrT (p := q6 = 0) (y := 11) (is := List.drop 18 mC11) (L := [w0, .ref p1, .int p2, .int s]) (st := []) (μ := μ) (t := 35) rfl h8 ?_
        exact t11L2_20 μ p1 p2 s w0 hw0 hr hC
      · refine gBrF (p := q6 = 0) (y := 11) (is := List.drop 18 mC11) (L := [w0, .ref p1, .int p2, .int s]) (st := []) (μ := μ) (t := 35) rfl h8 ?_
        refine mGo.steps 1 (c' := (11, List.drop 19 mC11, [w0, .ref p1, .int p2, .int s], [.int 1], μ)) rfl ?_
        obtain rfl := Option.some.inj hr
        rw [show r = _ from hC]
        exact gZret rfl (by decide)
theorem t11L2l (μ : mM) (p1 : Nat) (p2 : Int32) {r : Option Value × mM} (n : Nat) (s : Int32) (o : (Unit) ⊕ Int32) (hr : mLoop (s11L2 μ p1 p2) n s = some o) (hC : Sum.elim (fun x : Unit => ∀ (w0 : Value) (hw0 : mNotL w0 = true) (w1 : Value) (hw1 : mNotL w1 = true) (w2 : Value) (hw2 : mNotL w2 = true) (w3 : Value) (hw3 : mNotL w3 = true), mGo mG (11, List.drop 22 mC11, [w0, w1, w2, w3], [], μ) r) (fun y : Int32 => r = (some (.int y), μ)) o) : ∀ (w0 : Value) (hw0 : mNotL w0 = true), mGo mG (11, List.drop 2 mC11, [w0, .ref p1, .int p2, .int s], [], μ) r :=
  mLoop_go (Hd := (fun s' : Int32 => ∀ (w0 : Value) (hw0 : mNotL w0 = true), mGo mG (11, List.drop 2 mC11, [w0, .ref p1, .int p2, .int s'], [], μ) r)) (fun s o hb hC => t11L2 μ p1 p2 s o hb hC) n s o hr hC
def s11 (μ : mM) (a0 : Nat) (a1 : Nat) (a2 : Int32) : Option Int32 :=
  (mLoop (s11L2 μ a1 a2) 1000 0).bind fun o11 => Sum.elim (fun x12 => some 0) (fun y13 => some y13) o11
set_option maxRecDepth 20000 in
theorem t11 {μ : mM} {a0 : Nat} {a1 : Nat} {a2 : Int32} {o : Int32} (hr : s11 μ a0 a1 a2 = some o) : mEv mG 11 [.ref a0, .ref a1, .int a2] μ (some (.int o)) (μ) := by
  obtain ⟨r, hC⟩ : ∃ r : Option Value × mM, r = (some (.int o), μ) := ⟨_, rfl⟩
  show mGo mG (11, List.drop 0 mC11, [.ref a0, .ref a1, .int a2, .retAddr 0], [], μ) (some (.int o), μ)
  rw [← hC]
  unfold s11 at hr
  refine mGo.steps 2 (c' := (11, List.drop 2 mC11, [.ref a0, .ref a1, .int a2, .int 0], [], μ)) rfl ?_
  obtain ⟨o11, h14, hr⟩ := mBi hr
  refine t11L2l μ a1 a2 1000 0 o11 h14 ?_ (.ref a0) rfl
  cases o11 with
  | inl x12 =>
    show ∀ (w0 : Value) (hw0 : mNotL w0 = true) (w1 : Value) (hw1 : mNotL w1 = true) (w2 : Value) (hw2 : mNotL w2 = true) (w3 : Value) (hw3 : mNotL w3 = true), mGo mG (11, List.drop 22 mC11, [w0, w1, w2, w3], [], μ) r
    intro w0 hw0 w1 hw1 w2 hw2 w3 hw3
    replace hr : (_) = some _ := hr
    refine mGo.steps 1 (c' := (11, List.drop 23 mC11, [w0, w1, w2, w3], [.int 0], μ)) rfl ?_
    obtain rfl := Option.some.inj hr
    rw [show r = _ from hC]
    exact gZret rfl (by decide)
  | inr y13 =>
    obtain rfl := Option.some.inj hr
    exact hC

/-! 10: TunnelFabric$Clock.settle(LTunnelFabric$Fabric;I)V -/
def s10_60 (a0 : Nat) (a1 : Nat) (a2 : Int32) (μ : mM) : Option mM :=
  some μ
set_option maxRecDepth 20000 in
theorem t10_60 (a0 : Nat) (a1 : Nat) (a2 : Int32) (μ : mM) (w0 : Value) (hw0 : mNotL w0 = true) (w1 : Value) (hw1 : mNotL w1 = true) (w2 : Value) (hw2 : mNotL w2 = true) (w3 : Value) (hw3 : mNotL w3 = true) (w4 : Value) (hw4 : mNotL w4 = true) {o : mM} {r : Option Value × mM} (hr : s10_60 a0 a1 a2 μ = some o) (hC : r = (none, o)) : mGo mG (10, List.drop 60 mC10, [w0, w1, w2, w3, w4], [], μ) r := by
  unfold s10_60 at hr
  obtain rfl := Option.some.inj hr
  rw [show r = _ from hC]
  exact gVret rfl
def s10_42 (a0 : Nat) (a1 : Nat) (a2 : Int32) (μ : mM) (t0 : Int32) (t1 : Nat) : Option mM :=
  if (mS μ t1).1 = 2 then (some (mUI μ t1 2 t0)).bind fun μ20 => s10_60 a0 a1 a2 μ20 else none
set_option maxRecDepth 20000 in
theorem t10_42 (a0 : Nat) (a1 : Nat) (a2 : Int32) (μ : mM) (t0 : Int32) (t1 : Nat) (w0 : Value) (hw0 : mNotL w0 = true) (w1 : Value) (hw1 : mNotL w1 = true) (w2 : Value) (hw2 : mNotL w2 = true) (w3 : Value) (hw3 : mNotL w3 = true) (w4 : Value) (hw4 : mNotL w4 = true) {o : mM} {r : Option Value × mM} (hr : s10_42 a0 a1 a2 μ t0 t1 = some o) (hC : r = (none, o)) : mGo mG (10, List.drop 42 mC10, [w0, w1, w2, w3, w4], [.int t0, .ref t1], μ) r := by
  unfold s10_42 at hr
  obtain ⟨h19, hr⟩ := mIf hr
  replace hr := mBs hr
  refine gPut (is := List.drop 43 mC10) (μ' := mUI μ t1 2 t0) h19 rfl ?_
  let μ20 : mM := mUI μ t1 2 t0
  refine mGo.steps 1 (c' := (10, List.drop 60 mC10, [w0, w1, w2, w3, w4], [], μ20)) rfl ?_
  exact t10_60 a0 a1 a2 μ20 w0 hw0 w1 hw1 w2 hw2 w3 hw3 w4 hw4 hr hC
def s10_31 (a0 : Nat) (a1 : Nat) (a2 : Int32) (μ : mM) (v3 : Nat) (v4 : Int32) (t0 : Int32) (t1 : Nat) : Option mM :=
  if (mS μ t1).1 = 2 then (some (mUI μ t1 3 t0)).bind fun μ9 => if (mS μ9 v3).1 = 2 then if ¬ (mI μ9 v3 2) = 1 then (if ¬ (mI μ9 v3 2) = 0 then (s10_60 a0 a1 a2 μ9) else (if (mS μ9 a1).1 = 1 then if (mI μ9 v3 3) < (mI μ9 a1 2) then (s10_60 a0 a1 a2 μ9) else (if (mS μ9 a0).1 = 0 then (s11 μ9 a0 a1 a2).bind fun q13 => if ¬ q13 = 0 then (s10_60 a0 a1 a2 μ9) else ((some (mUI μ9 v3 2 1)).bind fun μ15 => s10_60 a0 a1 a2 μ15) else none) else none)) else (if v4 = 0 then (s10_42 a0 a1 a2 μ9 0 v3) else (s10_42 a0 a1 a2 μ9 2 v3)) else none else none
set_option maxRecDepth 20000 in
theorem t10_31 (a0 : Nat) (a1 : Nat) (a2 : Int32) (μ : mM) (v3 : Nat) (v4 : Int32) (t0 : Int32) (t1 : Nat) {o : mM} {r : Option Value × mM} (hr : s10_31 a0 a1 a2 μ v3 v4 t0 t1 = some o) (hC : r = (none, o)) : mGo mG (10, List.drop 31 mC10, [.ref a0, .ref a1, .int a2, .ref v3, .int v4], [.int t0, .ref t1], μ) r := by
  unfold s10_31 at hr
  obtain ⟨h8, hr⟩ := mIf hr
  replace hr := mBs hr
  refine gPut (is := List.drop 32 mC10) (μ' := mUI μ t1 3 t0) h8 rfl ?_
  let μ9 : mM := mUI μ t1 3 t0
  refine mGo.steps 1 (c' := (10, List.drop 33 mC10, [.ref a0, .ref a1, .int a2, .ref v3, .int v4], [.ref v3], μ9)) rfl ?_
  obtain ⟨h10, hr⟩ := mIf hr
  refine gGet (is := List.drop 34 mC10) (v := .int (mI μ9 v3 2)) h10 rfl ?_
  refine mGo.steps 1 (c' := (10, List.drop 35 mC10, [.ref a0, .ref a1, .int a2, .ref v3, .int v4], [.int 1, .int (mI μ9 v3 2)], μ9)) rfl ?_
  rcases mIte hr with ⟨h22, hr⟩ | ⟨h22, hr⟩
  · refine gBrT (p := ¬ (mI μ9 v3 2) = 1) (y := 10) (is := List.drop 36 mC10) (L := [.ref a0, .ref a1, .int a2, .ref v3, .int v4]) (st := []) (μ := μ9) (t := 83) rfl h22 ?_
    refine mGo.steps 1 (c' := (10, List.drop 45 mC10, [.ref a0, .ref a1, .int a2, .ref v3, .int v4], [.ref v3], μ9)) rfl ?_
    refine gGet (is := List.drop 46 mC10) (v := .int (mI μ9 v3 2)) h10 rfl ?_
    rcases mIte hr with ⟨h18, hr⟩ | ⟨h18, hr⟩
    · refine gBrT (p := ¬ (mI μ9 v3 2) = 0) (y := 10) (is := List.drop 47 mC10) (L := [.ref a0, .ref a1, .int a2, .ref v3, .int v4]) (st := []) (μ := μ9) (t := 115) rfl h18 ?_
      exact t10_60 a0 a1 a2 μ9 (.ref a0) rfl (.ref a1) rfl (.int a2) rfl (.ref v3) rfl (.int v4) rfl hr hC
    · refine gBrF (p := ¬ (mI μ9 v3 2) = 0) (y := 10) (is := List.drop 47 mC10) (L := [.ref a0, .ref a1, .int a2, .ref v3, .int v4]) (st := []) (μ := μ9) (t := 115) rfl h18 ?_
      refine mGo.steps 1 (c' := (10, List.drop 48 mC10, [.ref a0, .ref a1, .int a2, .ref v3, .int v4], [.ref v3], μ9)) rfl ?_
      refine gGet (is := List.drop 49 mC10) (v := .int (mI μ9 v3 3)) h10 rfl ?_
      refine mGo.steps 1 (c' := (10, List.drop 50 mC10, [.ref a0, .ref a1, .int a2, .ref v3, .int v4], [.ref a1, .int (mI μ9 v3 3)], μ9)) rfl ?_
      obtain ⟨h11, hr⟩ := mIf hr
      refine gGet (is := List.drop 51 mC10) (v := .int (mI μ9 a1 2)) h11 rfl ?_
      rcases mIte hr with ⟨h17, hr⟩ | ⟨h17, hr⟩
      · refine gBrT (p := (mI μ9 v3 3) < (mI μ9 a1 2)) (y := 10) (is := List.drop 52 mC10) (L := [.ref a0, .ref a1, .int a2, .ref v3, .int v4]) (st := []) (μ := μ9) (t := 115) rfl h17 ?_
        exact t10_60 a0 a1 a2 μ9 (.ref a0) rfl (.ref a1) rfl (.int a2) rfl (.ref v3) rfl (.int v4) rfl hr hC
      · refine gBrF (p := (mI μ9 v3 3) < (mI μ9 a1 2)) (y := 10) (is := List.drop 52 mC10) (L := [.ref a0, .ref a1, .int a2, .ref v3, .int v4]) (st := []) (μ := μ9) (t := 115) rfl h17 ?_
        refine mGo.steps 3 (c' := (10, List.drop 55 mC10, [.ref a0, .ref a1, .int a2, .ref v3, .int v4], [.int a2, .ref a1, .ref a0], μ9)) rfl ?_
        obtain ⟨h12, hr⟩ := mIf hr
        obtain ⟨q13, h14, hr⟩ := mBi hr
        refine gCall (z := 11) (n := 2) (f := 0) (kind := 1) (a := a0) (As := [.ref a1, .int a2]) (y := 10) (is := List.drop 56 mC10) (L := [.ref a0, .ref a1, .int a2, .ref v3, .int v4]) (rest := []) (μ := μ9) rfl (by decide) (by decide) ⟨rfl, rfl⟩ rfl h12 (Nat.le_of_ble_eq_true rfl) (Nat.le_of_ble_eq_true rfl) (t11 h14) ?_
        rcases mIte hr with ⟨h16, hr⟩ | ⟨h16, hr⟩
        · refine gBrT (p := ¬ q13 = 0) (y := 10) (is := List.drop 57 mC10) (L := [.ref a0, .ref a1, .int a2, .ref v3, .int v4]) (st := []) (μ := μ9) (t := 115) rfl h16 ?_
          exact t10_60 a0 a1 a2 μ9 (.ref a0) rfl (.ref a1) rfl (.int a2) rfl (.ref v3) rfl (.int v4) rfl hr hC
        · refine gBrF (p := ¬ q13 = 0) (y := 10) (is := List.drop 57 mC10) (L := [.ref a0, .ref a1, .int a2, .ref v3, .int v4]) (st := []) (μ := μ9) (t := 115) rfl h16 ?_
          refine mGo.steps 2 (c' := (10, List.drop 59 mC10, [.ref a0, .ref a1, .int a2, .ref v3, .int v4], [.int 1, .ref v3], μ9)) rfl ?_
          replace hr := mBs hr
          refine gPut (is := List.drop 60 mC10) (μ' := mUI μ9 v3 2 1) h10 rfl ?_
          let μ15 : mM := mUI μ9 v3 2 1
          exact t10_60 a0 a1 a2 μ15 (.ref a0) rfl (.ref a1) rfl (.int a2) rfl (.ref v3) rfl (.int v4) rfl hr hC
  · refine gBrF (p := ¬ (mI μ9 v3 2) = 1) (y := 10) (is := List.drop 36 mC10) (L := [.ref a0, .ref a1, .int a2, .ref v3, .int v4]) (st := []) (μ := μ9) (t := 83) rfl h22 ?_
    refine mGo.steps 2 (c' := (10, List.drop 38 mC10, [.ref a0, .ref a1, .int a2, .ref v3, .int v4], [.int v4, .ref v3], μ9)) rfl ?_
    rcases mIte hr with ⟨h21, hr⟩ | ⟨h21, hr⟩
    · refine gBrT (p := v4 = 0) (y := 10) (is := List.drop 39 mC10) (L := [.ref a0, .ref a1, .int a2, .ref v3, .int v4]) (st := [.ref v3]) (μ := μ9) (t := 76) rfl h21 ?_
      refine mGo.steps 1 (c' := (10, List.drop 42 mC10, [.ref a0, .ref a1, .int a2, .ref v3, .int v4], [.int 0, .ref v3], μ9)) rfl ?_
      exact t10_42 a0 a1 a2 μ9 0 v3 (.ref a0) rfl (.ref a1) rfl (.int a2) rfl (.ref v3) rfl (.int v4) rfl hr hC
    · refine gBrF (p := v4 = 0) (y := 10) (is := List.drop 39 mC10) (L := [.ref a0, .ref a1, .int a2, .ref v3, .int v4]) (st := [.ref v3]) (μ := μ9) (t := 76) rfl h21 ?_
      refine mGo.steps 2 (c' := (10, List.drop 42 mC10, [.ref a0, .ref a1, .int a2, .ref v3, .int v4], [.int 2, .ref v3], μ9)) rfl ?_
      exact t10_42 a0 a1 a2 μ9 2 v3 (.ref a0) rfl (.ref a1) rfl (.int a2) rfl (.ref v3) rfl (.int v4) rfl hr hC
def s10_30 (a0 : Nat) (a1 : Nat) (a2 : Int32) (μ : mM) (v3 : Nat) (v4 : Int32) (t0 : Nat) : Option mM :=
  s10_31 a0 a1 a2 μ v3 v4 0 t0
set_option maxRecDepth 20000 in
theorem t10_30 (a0 : Nat) (a1 : Nat) (a2 : Int32) (μ : mM) (v3 : Nat) (v4 : Int32) (t0 : Nat) {o : mM} {r : Option Value × mM} (hr : s10_30 a0 a1 a2 μ v3 v4 t0 = some o) (hC : r = (none, o)) : mGo mG (10, List.drop 30 mC10, [.ref a0, .ref a1, .int a2, .ref v3, .int v4], [.ref t0], μ) r := by
  unfold s10_30 at hr
  refine mGo.steps 1 (c' := (10, List.drop 31 mC10, [.ref a0, .ref a1, .int a2, .ref v3, .int v4], [.int 0, .ref t0], μ)) rfl ?_
  exact t10_31 a0 a1 a2 μ v3 v4 0 t0 hr hC
def s10_18 (a0 : Nat) (a1 : Nat) (a2 : Int32) (μ : mM) (v3 : Nat) (t0 : Int32) : Option mM :=
  if t0 = 0 then (s10_30 a0 a1 a2 μ v3 t0 v3) else (if (mS μ v3).1 = 2 then (s55 μ v3).bind fun q24 => if q24 = 0 then (s10_30 a0 a1 a2 μ v3 t0 v3) else (s10_31 a0 a1 a2 μ v3 t0 ((mI μ v3 3) + 1) v3) else none)
set_option maxRecDepth 20000 in
theorem t10_18 (a0 : Nat) (a1 : Nat) (a2 : Int32) (μ : mM) (v3 : Nat) (t0 : Int32) (w4 : Value) (hw4 : mNotL w4 = true) {o : mM} {r : Option Value × mM} (hr : s10_18 a0 a1 a2 μ v3 t0 = some o) (hC : r = (none, o)) : mGo mG (10, List.drop 18 mC10, [.ref a0, .ref a1, .int a2, .ref v3, w4], [.int t0], μ) r := by
  unfold s10_18 at hr
  refine mGo.steps 3 (c' := (10, List.drop 21 mC10, [.ref a0, .ref a1, .int a2, .ref v3, .int t0], [.int t0, .ref v3], μ)) rfl ?_
  rcases mIte hr with ⟨h27, hr⟩ | ⟨h27, hr⟩
  · refine gBrT (p := t0 = 0) (y := 10) (is := List.drop 22 mC10) (L := [.ref a0, .ref a1, .int a2, .ref v3, .int t0]) (st := [.ref v3]) (μ := μ) (t := 54) rfl h27 ?_
    exact t10_30 a0 a1 a2 μ v3 t0 v3 hr hC
  · refine gBrF (p := t0 = 0) (y := 10) (is := List.drop 22 mC10) (L := [.ref a0, .ref a1, .int a2, .ref v3, .int t0]) (st := [.ref v3]) (μ := μ) (t := 54) rfl h27 ?_
    refine mGo.steps 1 (c' := (10, List.drop 23 mC10, [.ref a0, .ref a1, .int a2, .ref v3, .int t0], [.ref v3, .ref v3], μ)) rfl ?_
    obtain ⟨h23, hr⟩ := mIf hr
    obtain ⟨q24, h25, hr⟩ := mBi hr
    refine gCall (z := 55) (n := 0) (f := 0) (kind := 1) (a := v3) (As := []) (y := 10) (is := List.drop 24 mC10) (L := [.ref a0, .ref a1, .int a2, .ref v3, .int t0]) (rest := [.ref v3]) (μ := μ) rfl (by decide) (by decide) ⟨rfl, rfl⟩ rfl h23 (Nat.le_of_ble_eq_true rfl) (Nat.le_of_ble_eq_true rfl) (t55 h25) ?_
    rcases mIte hr with ⟨h26, hr⟩ | ⟨h26, hr⟩
    · refine gBrT (p := q24 = 0) (y := 10) (is := List.drop 25 mC10) (L := [.ref a0, .ref a1, .int a2, .ref v3, .int t0]) (st := [.ref v3]) (μ := μ) (t := 54) rfl h26 ?_
      exact t10_30 a0 a1 a2 μ v3 t0 v3 hr hC
    · refine gBrF (p := q24 = 0) (y := 10) (is := List.drop 25 mC10) (L := [.ref a0, .ref a1, .int a2, .ref v3, .int t0]) (st := [.ref v3]) (μ := μ) (t := 54) rfl h26 ?_
      refine mGo.steps 1 (c' := (10, List.drop 26 mC10, [.ref a0, .ref a1, .int a2, .ref v3, .int t0], [.ref v3, .ref v3], μ)) rfl ?_
      refine gGet (is := List.drop 27 mC10) (v := .int (mI μ v3 3)) h23 rfl ?_
      refine mGo.steps 3 (c' := (10, List.drop 31 mC10, [.ref a0, .ref a1, .int a2, .ref v3, .int t0], [.int ((mI μ v3 3) + 1), .ref v3], μ)) rfl ?_
      exact t10_31 a0 a1 a2 μ v3 t0 ((mI μ v3 3) + 1) v3 hr hC
def s10 (μ : mM) (a0 : Nat) (a1 : Nat) (a2 : Int32) : Option mM :=
  if (mS μ a1).1 = 1 then (s18 μ a1 a2).bind fun q2 => if (mS μ q2).1 = 4 then if (mS μ (mP μ q2 6)).1 = 2 then if (mS μ (mP μ (mP μ q2 6) 7)).1 = 10 ∧ mInb 0 (mS μ (mP μ (mP μ q2 6) 7)).2 then if (mS μ (mP μ (mP μ q2 6) 7)).1 = 10 ∧ mInb 1 (mS μ (mP μ (mP μ q2 6) 7)).2 then if ¬ ((mI μ (mP μ (mP μ q2 6) 7) (Int32.toNatClampNeg 0)) + (mI μ (mP μ (mP μ q2 6) 7) (Int32.toNatClampNeg 1))) = 0 then (s10_18 a0 a1 a2 μ (mP μ q2 6) 0) else (s10_18 a0 a1 a2 μ (mP μ q2 6) 1) else none else none else none else none else none
set_option maxRecDepth 20000 in
theorem t10 {μ : mM} {a0 : Nat} {a1 : Nat} {a2 : Int32} {o : mM} (hr : s10 μ a0 a1 a2 = some o) : mEv mG 10 [.ref a0, .ref a1, .int a2] μ (none) (o) := by
  obtain ⟨r, hC⟩ : ∃ r : Option Value × mM, r = (none, o) := ⟨_, rfl⟩
  show mGo mG (10, List.drop 0 mC10, [.ref a0, .ref a1, .int a2, .retAddr 0, .retAddr 0], [], μ) (none, o)
  rw [← hC]
  unfold s10 at hr
  refine mGo.steps 2 (c' := (10, List.drop 2 mC10, [.ref a0, .ref a1, .int a2, .retAddr 0, .retAddr 0], [.int a2, .ref a1], μ)) rfl ?_
  obtain ⟨h1, hr⟩ := mIf hr
  obtain ⟨q2, h3, hr⟩ := mBi hr
  refine gCall (z := 18) (n := 1) (f := 0) (kind := 1) (a := a1) (As := [.int a2]) (y := 10) (is := List.drop 3 mC10) (L := [.ref a0, .ref a1, .int a2, .retAddr 0, .retAddr 0]) (rest := []) (μ := μ) rfl (by decide) (by decide) ⟨rfl, rfl⟩ rfl h1 (Nat.le_of_ble_eq_true rfl) (Nat.le_of_ble_eq_true rfl) (t18 h3) ?_
  obtain ⟨h4, hr⟩ := mIf hr
  refine gGet (is := List.drop 4 mC10) (v := .ref (mP μ q2 6)) h4 rfl ?_
  refine mGo.steps 2 (c' := (10, List.drop 6 mC10, [.ref a0, .ref a1, .int a2, .ref (mP μ q2 6), .retAddr 0], [.ref (mP μ q2 6)], μ)) rfl ?_
  obtain ⟨h5, hr⟩ := mIf hr
  refine gGet (is := List.drop 7 mC10) (v := .ref (mP μ (mP μ q2 6) 7)) h5 rfl ?_
  refine mGo.steps 1 (c' := (10, List.drop 8 mC10, [.ref a0, .ref a1, .int a2, .ref (mP μ q2 6), .retAddr 0], [.int 0, .ref (mP μ (mP μ q2 6) 7)], μ)) rfl ?_
  obtain ⟨h6, hr⟩ := mIf hr
  refine gIald (is := List.drop 9 mC10) h6 ?_
  refine mGo.steps 1 (c' := (10, List.drop 10 mC10, [.ref a0, .ref a1, .int a2, .ref (mP μ q2 6), .retAddr 0], [.ref (mP μ q2 6), .int (mI μ (mP μ (mP μ q2 6) 7) (Int32.toNatClampNeg 0))], μ)) rfl ?_
  refine gGet (is := List.drop 11 mC10) (v := .ref (mP μ (mP μ q2 6) 7)) h5 rfl ?_
  refine mGo.steps 1 (c' := (10, List.drop 12 mC10, [.ref a0, .ref a1, .int a2, .ref (mP μ q2 6), .retAddr 0], [.int 1, .ref (mP μ (mP μ q2 6) 7), .int (mI μ (mP μ (mP μ q2 6) 7) (Int32.toNatClampNeg 0))], μ)) rfl ?_
  obtain ⟨h7, hr⟩ := mIf hr
  refine gIald (is := List.drop 13 mC10) h7 ?_
  refine mGo.steps 1 (c' := (10, List.drop 14 mC10, [.ref a0, .ref a1, .int a2, .ref (mP μ q2 6), .retAddr 0], [.int ((mI μ (mP μ (mP μ q2 6) 7) (Int32.toNatClampNeg 0)) + (mI μ (mP μ (mP μ q2 6) 7) (Int32.toNatClampNeg 1)))], μ)) rfl ?_
  rcases mIte hr with ⟨h28, hr⟩ | ⟨h28, hr⟩
  · refine gBrT (p := ¬ ((mI μ (mP μ (mP μ q2 6) 7) (Int32.toNatClampNeg 0)) + (mI μ (mP μ (mP μ q2 6) 7) (Int32.toNatClampNeg 1))) = 0) (y := 10) (is := List.drop 15 mC10) (L := [.ref a0, .ref a1, .int a2, .ref (mP μ q2 6), .retAddr 0]) (st := []) (μ := μ) (t := 29) rfl h28 ?_
    refine mGo.steps 1 (c' := (10, List.drop 18 mC10, [.ref a0, .ref a1, .int a2, .ref (mP μ q2 6), .retAddr 0], [.int 0], μ)) rfl ?_
    exact t10_18 a0 a1 a2 μ (mP μ q2 6) 0 (.retAddr 0) rfl hr hC
  · refine gBrF (p := ¬ ((mI μ (mP μ (mP μ q2 6) 7) (Int32.toNatClampNeg 0)) + (mI μ (mP μ (mP μ q2 6) 7) (Int32.toNatClampNeg 1))) = 0) (y := 10) (is := List.drop 15 mC10) (L := [.ref a0, .ref a1, .int a2, .ref (mP μ q2 6), .retAddr 0]) (st := []) (μ := μ) (t := 29) rfl h28 ?_
    refine mGo.steps 2 (c' := (10, List.drop 18 mC10, [.ref a0, .ref a1, .int a2, .ref (mP μ q2 6), .retAddr 0], [.int 1], μ)) rfl ?_
    exact t10_18 a0 a1 a2 μ (mP μ q2 6) 1 (.retAddr 0) rfl hr hC

/-! 1: TunnelFabric$Clock.pass(LTunnelFabric$Fabric;)I -/
def s1L2_15 (p0 : Nat) (p1 : Nat) (μ : mM) (v2 : Int32) : Option ((Int32 × mM) ⊕ ((mM) ⊕ (Int32 × mM))) :=
  some (.inl (v2 + 1, μ))
set_option maxRecDepth 20000 in
theorem t1L2_15 (p0 : Nat) (p1 : Nat) (μ : mM) (v2 : Int32) (w3 : Value) (hw3 : mNotL w3 = true) {o : ((Int32 × mM) ⊕ ((mM) ⊕ (Int32 × mM)))} {r : Option Value × mM} (hr : s1L2_15 p0 p1 μ v2 = some o) (hC : Sum.elim (fun s' : Int32 × mM => ∀ (w3 : Value) (hw3 : mNotL w3 = true), mGo mG (1, List.drop 2 mC1, [.ref p0, .ref p1, .int s'.1, w3], [], s'.2) r) (Sum.elim (fun x : mM => ∀ (w2 : Value) (hw2 : mNotL w2 = true) (w3 : Value) (hw3 : mNotL w3 = true), mGo mG (1, List.drop 17 mC1, [.ref p0, .ref p1, w2, w3], [], x) r) (fun y : (Int32 × mM) => r = (some (.int y.1), y.2))) o) : mGo mG (1, List.drop 15 mC1, [.ref p0, .ref p1, .int v2, w3], [], μ) r := by
  unfold s1L2_15 at hr
  refine mGo.steps 2 (c' := (1, List.drop 2 mC1, [.ref p0, .ref p1, .int (v2 + 1), w3], [], μ)) rfl ?_
  obtain rfl := Option.some.inj hr
  exact hC w3 hw3
def s1L2 (p0 : Nat) (p1 : Nat) (s : Int32 × mM) : Option ((Int32 × mM) ⊕ ((mM) ⊕ (Int32 × mM))) :=
  if 8 ≤ s.1 then (some (.inr (.inl s.2))) else (if (mS s.2 p1).1 = 1 then if (mS s.2 (mP s.2 p1 0)).1 = 20 + 4 ∧ mInb s.1 (mS s.2 (mP s.2 p1 0)).2 then if (mS s.2 (mP s.2 (mP s.2 p1 0) (Int32.toNatClampNeg s.1))).1 = 4 then if (mI s.2 (mP s.2 (mP s.2 p1 0) (Int32.toNatClampNeg s.1)) 0) = 0 then (s1L2_15 p0 p1 s.2 s.1) else (if (mS s.2 p0).1 = 0 then (s2 s.2 p0 p1 s.1).bind fun q5 => s1L2_15 p0 p1 q5 s.1 else none) else none else none else none)
set_option maxRecDepth 20000 in
theorem t1L2 (p0 : Nat) (p1 : Nat) {r : Option Value × mM} (s : Int32 × mM) (o : ((Int32 × mM) ⊕ ((mM) ⊕ (Int32 × mM)))) (hr : s1L2 p0 p1 s = some o) (hC : Sum.elim (fun s' : Int32 × mM => ∀ (w3 : Value) (hw3 : mNotL w3 = true), mGo mG (1, List.drop 2 mC1, [.ref p0, .ref p1, .int s'.1, w3], [], s'.2) r) (Sum.elim (fun x : mM => ∀ (w2 : Value) (hw2 : mNotL w2 = true) (w3 : Value) (hw3 : mNotL w3 = true), mGo mG (1, List.drop 17 mC1, [.ref p0, .ref p1, w2, w3], [], x) r) (fun y : (Int32 × mM) => r = (some (.int y.1), y.2))) o) : ∀ (w3 : Value) (hw3 : mNotL w3 = true), mGo mG (1, List.drop 2 mC1, [.ref p0, .ref p1, .int s.1, w3], [], s.2) r := by
  intro w3 hw3
  unfold s1L2 at hr
  refine mGo.steps 2 (c' := (1, List.drop 4 mC1, [.ref p0, .ref p1, .int s.1, w3], [.int 8, .int s.1], s.2)) rfl ?_
  rcases mIte hr with ⟨h8, hr⟩ | ⟨h8, hr⟩
  · refine gBrT (p := 8 ≤ s.1) (y := 1) (is := List.drop 5 mC1) (L := [.ref p0, .ref p1, .int s.1, w3]) (st := []) (μ := s.2) (t := 32) rfl h8 ?_
    obtain rfl := Option.some.inj hr
    exact hC (.int s.1) rfl w3 hw3
  · refine gBrF (p := 8 ≤ s.1) (y := 1) (is := List.drop 5 mC1) (L := [.ref p0, .ref p1, .int s.1, w3]) (st := []) (μ := s.2) (t := 32) rfl h8 ?_
    refine mGo.steps 1 (c' := (1, List.drop 6 mC1, [.ref p0, .ref p1, .int s.1, w3], [.ref p1], s.2)) rfl ?_
    obtain ⟨h1, hr⟩ := mIf hr
    refine gGet (is := List.drop 7 mC1) (v := .ref (mP s.2 p1 0)) h1 rfl ?_
    refine mGo.steps 1 (c' := (1, List.drop 8 mC1, [.ref p0, .ref p1, .int s.1, w3], [.int s.1, .ref (mP s.2 p1 0)], s.2)) rfl ?_
    obtain ⟨h2, hr⟩ := mIf hr
    refine gAald (is := List.drop 9 mC1) h2 ?_
    obtain ⟨h3, hr⟩ := mIf hr
    refine gGet (is := List.drop 10 mC1) (v := .int (mI s.2 (mP s.2 (mP s.2 p1 0) (Int32.toNatClampNeg s.1)) 0)) h3 rfl ?_
    rcases mIte hr with ⟨h7, hr⟩ | ⟨h7, hr⟩
    · refine gBrT (p := (mI s.2 (mP s.2 (mP s.2 p1 0) (Int32.toNatClampNeg s.1)) 0) = 0) (y := 1) (is := List.drop 11 mC1) (L := [.ref p0, .ref p1, .int s.1, w3]) (st := []) (μ := s.2) (t := 26) rfl h7 ?_
      exact t1L2_15 p0 p1 s.2 s.1 w3 hw3 hr hC
    · refine gBrF (p := (mI s.2 (mP s.2 (mP s.2 p1 0) (Int32.toNatClampNeg s.1)) 0) = 0) (y := 1) (is := List.drop 11 mC1) (L := [.ref p0, .ref p1, .int s.1, w3]) (st := []) (μ := s.2) (t := 26) rfl h7 ?_
      refine mGo.steps 3 (c' := (1, List.drop 14 mC1, [.ref p0, .ref p1, .int s.1, w3], [.int s.1, .ref p1, .ref p0], s.2)) rfl ?_
      obtain ⟨h4, hr⟩ := mIf hr
      obtain ⟨q5, h6, hr⟩ := mBi hr
      refine gCall (z := 2) (n := 2) (f := 0) (kind := 1) (a := p0) (As := [.ref p1, .int s.1]) (y := 1) (is := List.drop 15 mC1) (L := [.ref p0, .ref p1, .int s.1, w3]) (rest := []) (μ := s.2) rfl (by decide) (by decide) ⟨rfl, rfl⟩ rfl h4 (Nat.le_of_ble_eq_true rfl) (Nat.le_of_ble_eq_true rfl) (t2 h6) ?_
      exact t1L2_15 p0 p1 q5 s.1 w3 hw3 hr hC
theorem t1L2l (p0 : Nat) (p1 : Nat) {r : Option Value × mM} (n : Nat) (s : Int32 × mM) (o : (mM) ⊕ (Int32 × mM)) (hr : mLoop (s1L2 p0 p1) n s = some o) (hC : Sum.elim (fun x : mM => ∀ (w2 : Value) (hw2 : mNotL w2 = true) (w3 : Value) (hw3 : mNotL w3 = true), mGo mG (1, List.drop 17 mC1, [.ref p0, .ref p1, w2, w3], [], x) r) (fun y : (Int32 × mM) => r = (some (.int y.1), y.2)) o) : ∀ (w3 : Value) (hw3 : mNotL w3 = true), mGo mG (1, List.drop 2 mC1, [.ref p0, .ref p1, .int s.1, w3], [], s.2) r :=
  mLoop_go (Hd := (fun s' : Int32 × mM => ∀ (w3 : Value) (hw3 : mNotL w3 = true), mGo mG (1, List.drop 2 mC1, [.ref p0, .ref p1, .int s'.1, w3], [], s'.2) r)) (fun s o hb hC => t1L2 p0 p1 s o hb hC) n s o hr hC
def s1L19_32 (p0 : Nat) (p1 : Nat) (μ : mM) (v2 : Int32) : Option ((Int32 × mM) ⊕ ((mM) ⊕ (Int32 × mM))) :=
  some (.inl (v2 + 1, μ))
set_option maxRecDepth 20000 in
theorem t1L19_32 (p0 : Nat) (p1 : Nat) (μ : mM) (v2 : Int32) (w3 : Value) (hw3 : mNotL w3 = true) {o : ((Int32 × mM) ⊕ ((mM) ⊕ (Int32 × mM)))} {r : Option Value × mM} (hr : s1L19_32 p0 p1 μ v2 = some o) (hC : Sum.elim (fun s' : Int32 × mM => ∀ (w3 : Value) (hw3 : mNotL w3 = true), mGo mG (1, List.drop 19 mC1, [.ref p0, .ref p1, .int s'.1, w3], [], s'.2) r) (Sum.elim (fun x : mM => ∀ (w2 : Value) (hw2 : mNotL w2 = true) (w3 : Value) (hw3 : mNotL w3 = true), mGo mG (1, List.drop 34 mC1, [.ref p0, .ref p1, w2, w3], [], x) r) (fun y : (Int32 × mM) => r = (some (.int y.1), y.2))) o) : mGo mG (1, List.drop 32 mC1, [.ref p0, .ref p1, .int v2, w3], [], μ) r := by
  unfold s1L19_32 at hr
  refine mGo.steps 2 (c' := (1, List.drop 19 mC1, [.ref p0, .ref p1, .int (v2 + 1), w3], [], μ)) rfl ?_
  obtain rfl := Option.some.inj hr
  exact hC w3 hw3
def s1L19 (p0 : Nat) (p1 : Nat) (s : Int32 × mM) : Option ((Int32 × mM) ⊕ ((mM) ⊕ (Int32 × mM))) :=
  if 8 ≤ s.1 then (some (.inr (.inl s.2))) else (if (mS s.2 p1).1 = 1 then if (mS s.2 (mP s.2 p1 0)).1 = 20 + 4 ∧ mInb s.1 (mS s.2 (mP s.2 p1 0)).2 then if (mS s.2 (mP s.2 (mP s.2 p1 0) (Int32.toNatClampNeg s.1))).1 = 4 then if (mI s.2 (mP s.2 (mP s.2 p1 0) (Int32.toNatClampNeg s.1)) 0) = 0 then (s1L19_32 p0 p1 s.2 s.1) else (if (mS s.2 p0).1 = 0 then (s4 s.2 p0 p1 s.1).bind fun q17 => s1L19_32 p0 p1 q17 s.1 else none) else none else none else none)
set_option maxRecDepth 20000 in
theorem t1L19 (p0 : Nat) (p1 : Nat) {r : Option Value × mM} (s : Int32 × mM) (o : ((Int32 × mM) ⊕ ((mM) ⊕ (Int32 × mM)))) (hr : s1L19 p0 p1 s = some o) (hC : Sum.elim (fun s' : Int32 × mM => ∀ (w3 : Value) (hw3 : mNotL w3 = true), mGo mG (1, List.drop 19 mC1, [.ref p0, .ref p1, .int s'.1, w3], [], s'.2) r) (Sum.elim (fun x : mM => ∀ (w2 : Value) (hw2 : mNotL w2 = true) (w3 : Value) (hw3 : mNotL w3 = true), mGo mG (1, List.drop 34 mC1, [.ref p0, .ref p1, w2, w3], [], x) r) (fun y : (Int32 × mM) => r = (some (.int y.1), y.2))) o) : ∀ (w3 : Value) (hw3 : mNotL w3 = true), mGo mG (1, List.drop 19 mC1, [.ref p0, .ref p1, .int s.1, w3], [], s.2) r := by
  intro w3 hw3
  unfold s1L19 at hr
  refine mGo.steps 2 (c' := (1, List.drop 21 mC1, [.ref p0, .ref p1, .int s.1, w3], [.int 8, .int s.1], s.2)) rfl ?_
  rcases mIte hr with ⟨h20, hr⟩ | ⟨h20, hr⟩
  · refine gBrT (p := 8 ≤ s.1) (y := 1) (is := List.drop 22 mC1) (L := [.ref p0, .ref p1, .int s.1, w3]) (st := []) (μ := s.2) (t := 64) rfl h20 ?_
    obtain rfl := Option.some.inj hr
    exact hC (.int s.1) rfl w3 hw3
  · refine gBrF (p := 8 ≤ s.1) (y := 1) (is := List.drop 22 mC1) (L := [.ref p0, .ref p1, .int s.1, w3]) (st := []) (μ := s.2) (t := 64) rfl h20 ?_
    refine mGo.steps 1 (c' := (1, List.drop 23 mC1, [.ref p0, .ref p1, .int s.1, w3], [.ref p1], s.2)) rfl ?_
    obtain ⟨h13, hr⟩ := mIf hr
    refine gGet (is := List.drop 24 mC1) (v := .ref (mP s.2 p1 0)) h13 rfl ?_
    refine mGo.steps 1 (c' := (1, List.drop 25 mC1, [.ref p0, .ref p1, .int s.1, w3], [.int s.1, .ref (mP s.2 p1 0)], s.2)) rfl ?_
    obtain ⟨h14, hr⟩ := mIf hr
    refine gAald (is := List.drop 26 mC1) h14 ?_
    obtain ⟨h15, hr⟩ := mIf hr
    refine gGet (is := List.drop 27 mC1) (v := .int (mI s.2 (mP s.2 (mP s.2 p1 0) (Int32.toNatClampNeg s.1)) 0)) h15 rfl ?_
    rcases mIte hr with ⟨h19, hr⟩ | ⟨h19, hr⟩
    · refine gBrT (p := (mI s.2 (mP s.2 (mP s.2 p1 0) (Int32.toNatClampNeg s.1)) 0) = 0) (y := 1) (is := List.drop 28 mC1) (L := [.ref p0, .ref p1, .int s.1, w3]) (st := []) (μ := s.2) (t := 58) rfl h19 ?_
      exact t1L19_32 p0 p1 s.2 s.1 w3 hw3 hr hC
    · refine gBrF (p := (mI s.2 (mP s.2 (mP s.2 p1 0) (Int32.toNatClampNeg s.1)) 0) = 0) (y := 1) (is := List.drop 28 mC1) (L := [.ref p0, .ref p1, .int s.1, w3]) (st := []) (μ := s.2) (t := 58) rfl h19 ?_
      refine mGo.steps 3 (c' := (1, List.drop 31 mC1, [.ref p0, .ref p1, .int s.1, w3], [.int s.1, .ref p1, .ref p0], s.2)) rfl ?_
      obtain ⟨h16, hr⟩ := mIf hr
      obtain ⟨q17, h18, hr⟩ := mBi hr
      refine gCall (z := 4) (n := 2) (f := 0) (kind := 1) (a := p0) (As := [.ref p1, .int s.1]) (y := 1) (is := List.drop 32 mC1) (L := [.ref p0, .ref p1, .int s.1, w3]) (rest := []) (μ := s.2) rfl (by decide) (by decide) ⟨rfl, rfl⟩ rfl h16 (Nat.le_of_ble_eq_true rfl) (Nat.le_of_ble_eq_true rfl) (t4 h18) ?_
      exact t1L19_32 p0 p1 q17 s.1 w3 hw3 hr hC
theorem t1L19l (p0 : Nat) (p1 : Nat) {r : Option Value × mM} (n : Nat) (s : Int32 × mM) (o : (mM) ⊕ (Int32 × mM)) (hr : mLoop (s1L19 p0 p1) n s = some o) (hC : Sum.elim (fun x : mM => ∀ (w2 : Value) (hw2 : mNotL w2 = true) (w3 : Value) (hw3 : mNotL w3 = true), mGo mG (1, List.drop 34 mC1, [.ref p0, .ref p1, w2, w3], [], x) r) (fun y : (Int32 × mM) => r = (some (.int y.1), y.2)) o) : ∀ (w3 : Value) (hw3 : mNotL w3 = true), mGo mG (1, List.drop 19 mC1, [.ref p0, .ref p1, .int s.1, w3], [], s.2) r :=
  mLoop_go (Hd := (fun s' : Int32 × mM => ∀ (w3 : Value) (hw3 : mNotL w3 = true), mGo mG (1, List.drop 19 mC1, [.ref p0, .ref p1, .int s'.1, w3], [], s'.2) r)) (fun s o hb hC => t1L19 p0 p1 s o hb hC) n s o hr hC
def s1L40_60 (p0 : Nat) (p1 : Nat) (p2 : Int32) (μ : mM) (v3 : Int32) : Option ((Int32 × mM) ⊕ ((mM) ⊕ (Int32 × mM))) :=
  some (.inl (v3 + 1, μ))
set_option maxRecDepth 20000 in
theorem t1L40_60 (p0 : Nat) (p1 : Nat) (p2 : Int32) (μ : mM) (v3 : Int32) {o : ((Int32 × mM) ⊕ ((mM) ⊕ (Int32 × mM)))} {r : Option Value × mM} (hr : s1L40_60 p0 p1 p2 μ v3 = some o) (hC : Sum.elim (fun s' : Int32 × mM => mGo mG (1, List.drop 40 mC1, [.ref p0, .ref p1, .int p2, .int s'.1], [], s'.2) r) (Sum.elim (fun x : mM => ∀ (w0 : Value) (hw0 : mNotL w0 = true) (w3 : Value) (hw3 : mNotL w3 = true), mGo mG (1, List.drop 62 mC1, [w0, .ref p1, .int p2, w3], [], x) r) (fun y : (Int32 × mM) => r = (some (.int y.1), y.2))) o) : mGo mG (1, List.drop 60 mC1, [.ref p0, .ref p1, .int p2, .int v3], [], μ) r := by
  unfold s1L40_60 at hr
  refine mGo.steps 2 (c' := (1, List.drop 40 mC1, [.ref p0, .ref p1, .int p2, .int (v3 + 1)], [], μ)) rfl ?_
  obtain rfl := Option.some.inj hr
  exact hC
def s1L40 (p0 : Nat) (p1 : Nat) (p2 : Int32) (s : Int32 × mM) : Option ((Int32 × mM) ⊕ ((mM) ⊕ (Int32 × mM))) :=
  if 8 ≤ s.1 then (some (.inr (.inl s.2))) else (if (mS s.2 p1).1 = 1 then if (mS s.2 (mP s.2 p1 0)).1 = 20 + 4 ∧ mInb s.1 (mS s.2 (mP s.2 p1 0)).2 then if (mS s.2 (mP s.2 (mP s.2 p1 0) (Int32.toNatClampNeg s.1))).1 = 4 then if (mI s.2 (mP s.2 (mP s.2 p1 0) (Int32.toNatClampNeg s.1)) 0) = 0 then (s1L40_60 p0 p1 p2 s.2 s.1) else (if (mS s.2 p0).1 = 0 then (s9 s.2 p0 (mP s.2 (mP s.2 (mP s.2 p1 0) (Int32.toNatClampNeg s.1)) 6)).bind fun q32 => if (mS q32 p0).1 = 0 then (s10 q32 p0 p1 s.1).bind fun q35 => s1L40_60 p0 p1 p2 q35 s.1 else none else none) else none else none else none)
set_option maxRecDepth 20000 in
theorem t1L40 (p0 : Nat) (p1 : Nat) (p2 : Int32) {r : Option Value × mM} (s : Int32 × mM) (o : ((Int32 × mM) ⊕ ((mM) ⊕ (Int32 × mM)))) (hr : s1L40 p0 p1 p2 s = some o) (hC : Sum.elim (fun s' : Int32 × mM => mGo mG (1, List.drop 40 mC1, [.ref p0, .ref p1, .int p2, .int s'.1], [], s'.2) r) (Sum.elim (fun x : mM => ∀ (w0 : Value) (hw0 : mNotL w0 = true) (w3 : Value) (hw3 : mNotL w3 = true), mGo mG (1, List.drop 62 mC1, [w0, .ref p1, .int p2, w3], [], x) r) (fun y : (Int32 × mM) => r = (some (.int y.1), y.2))) o) : mGo mG (1, List.drop 40 mC1, [.ref p0, .ref p1, .int p2, .int s.1], [], s.2) r := by
  unfold s1L40 at hr
  refine mGo.steps 2 (c' := (1, List.drop 42 mC1, [.ref p0, .ref p1, .int p2, .int s.1], [.int 8, .int s.1], s.2)) rfl ?_
  rcases mIte hr with ⟨h38, hr⟩ | ⟨h38, hr⟩
  · refine gBrT (p := 8 ≤ s.1) (y := 1) (is := List.drop 43 mC1) (L := [.ref p0, .ref p1, .int p2, .int s.1]) (st := []) (μ := s.2) (t := 115) rfl h38 ?_
    obtain rfl := Option.some.inj hr
    exact hC (.ref p0) rfl (.int s.1) rfl
  · refine gBrF (p := 8 ≤ s.1) (y := 1) (is := List.drop 43 mC1) (L := [.ref p0, .ref p1, .int p2, .int s.1]) (st := []) (μ := s.2) (t := 115) rfl h38 ?_
    refine mGo.steps 1 (c' := (1, List.drop 44 mC1, [.ref p0, .ref p1, .int p2, .int s.1], [.ref p1], s.2)) rfl ?_
    obtain ⟨h28, hr⟩ := mIf hr
    refine gGet (is := List.drop 45 mC1) (v := .ref (mP s.2 p1 0)) h28 rfl ?_
    refine mGo.steps 1 (c' := (1, List.drop 46 mC1, [.ref p0, .ref p1, .int p2, .int s.1], [.int s.1, .ref (mP s.2 p1 0)], s.2)) rfl ?_
    obtain ⟨h29, hr⟩ := mIf hr
    refine gAald (is := List.drop 47 mC1) h29 ?_
    obtain ⟨h30, hr⟩ := mIf hr
    refine gGet (is := List.drop 48 mC1) (v := .int (mI s.2 (mP s.2 (mP s.2 p1 0) (Int32.toNatClampNeg s.1)) 0)) h30 rfl ?_
    rcases mIte hr with ⟨h37, hr⟩ | ⟨h37, hr⟩
    · refine gBrT (p := (mI s.2 (mP s.2 (mP s.2 p1 0) (Int32.toNatClampNeg s.1)) 0) = 0) (y := 1) (is := List.drop 49 mC1) (L := [.ref p0, .ref p1, .int p2, .int s.1]) (st := []) (μ := s.2) (t := 109) rfl h37 ?_
      exact t1L40_60 p0 p1 p2 s.2 s.1 hr hC
    · refine gBrF (p := (mI s.2 (mP s.2 (mP s.2 p1 0) (Int32.toNatClampNeg s.1)) 0) = 0) (y := 1) (is := List.drop 49 mC1) (L := [.ref p0, .ref p1, .int p2, .int s.1]) (st := []) (μ := s.2) (t := 109) rfl h37 ?_
      refine mGo.steps 2 (c' := (1, List.drop 51 mC1, [.ref p0, .ref p1, .int p2, .int s.1], [.ref p1, .ref p0], s.2)) rfl ?_
      refine gGet (is := List.drop 52 mC1) (v := .ref (mP s.2 p1 0)) h28 rfl ?_
      refine mGo.steps 1 (c' := (1, List.drop 53 mC1, [.ref p0, .ref p1, .int p2, .int s.1], [.int s.1, .ref (mP s.2 p1 0), .ref p0], s.2)) rfl ?_
      refine gAald (is := List.drop 54 mC1) h29 ?_
      refine gGet (is := List.drop 55 mC1) (v := .ref (mP s.2 (mP s.2 (mP s.2 p1 0) (Int32.toNatClampNeg s.1)) 6)) h30 rfl ?_
      obtain ⟨h31, hr⟩ := mIf hr
      obtain ⟨q32, h33, hr⟩ := mBi hr
      refine gCall (z := 9) (n := 1) (f := 0) (kind := 1) (a := p0) (As := [.ref (mP s.2 (mP s.2 (mP s.2 p1 0) (Int32.toNatClampNeg s.1)) 6)]) (y := 1) (is := List.drop 56 mC1) (L := [.ref p0, .ref p1, .int p2, .int s.1]) (rest := []) (μ := s.2) rfl (by decide) (by decide) ⟨rfl, rfl⟩ rfl h31 (Nat.le_of_ble_eq_true rfl) (Nat.le_of_ble_eq_true rfl) (t9 h33) ?_
      refine mGo.steps 3 (c' := (1, List.drop 59 mC1, [.ref p0, .ref p1, .int p2, .int s.1], [.int s.1, .ref p1, .ref p0], q32)) rfl ?_
      obtain ⟨h34, hr⟩ := mIf hr
      obtain ⟨q35, h36, hr⟩ := mBi hr
      refine gCall (z := 10) (n := 2) (f := 0) (kind := 1) (a := p0) (As := [.ref p1, .int s.1]) (y := 1) (is := List.drop 60 mC1) (L := [.ref p0, .ref p1, .int p2, .int s.1]) (rest := []) (μ := q32) rfl (by decide) (by decide) ⟨rfl, rfl⟩ rfl h34 (Nat.le_of_ble_eq_true rfl) (Nat.le_of_ble_eq_true rfl) (t10 h36) ?_
      exact t1L40_60 p0 p1 p2 q35 s.1 hr hC
theorem t1L40l (p0 : Nat) (p1 : Nat) (p2 : Int32) {r : Option Value × mM} (n : Nat) (s : Int32 × mM) (o : (mM) ⊕ (Int32 × mM)) (hr : mLoop (s1L40 p0 p1 p2) n s = some o) (hC : Sum.elim (fun x : mM => ∀ (w0 : Value) (hw0 : mNotL w0 = true) (w3 : Value) (hw3 : mNotL w3 = true), mGo mG (1, List.drop 62 mC1, [w0, .ref p1, .int p2, w3], [], x) r) (fun y : (Int32 × mM) => r = (some (.int y.1), y.2)) o) : mGo mG (1, List.drop 40 mC1, [.ref p0, .ref p1, .int p2, .int s.1], [], s.2) r :=
  mLoop_go (Hd := (fun s' : Int32 × mM => mGo mG (1, List.drop 40 mC1, [.ref p0, .ref p1, .int p2, .int s'.1], [], s'.2) r)) (fun s o hb hC => t1L40 p0 p1 p2 s o hb hC) n s o hr hC
def s1 (μ : mM) (a0 : Nat) (a1 : Nat) : Option (Int32 × mM) :=
  (mLoop (s1L2 a0 a1) 1000 (1, μ)).bind fun o9 => Sum.elim (fun x10 => (mLoop (s1L19 a0 a1) 1000 (1, x10)).bind fun o21 => Sum.elim (fun x22 => if (mS x22 a0).1 = 0 then (s8 x22 a0 a1).bind fun q26 => (mLoop (s1L40 a0 a1 q26.1) 1000 (1, q26.2)).bind fun o39 => Sum.elim (fun x40 => if (mS x40 a1).1 = 1 then (some (mUI x40 a1 3 ((mI x40 a1 3) + 1))).bind fun μ44 => (some (mUI μ44 a1 4 ((mI μ44 a1 4) + q26.1))).bind fun μ45 => some (q26.1, μ45) else none) (fun y41 => some y41) o39 else none) (fun y23 => some y23) o21) (fun y11 => some y11) o9
set_option maxRecDepth 20000 in
theorem t1 {μ : mM} {a0 : Nat} {a1 : Nat} {o : (Int32 × mM)} (hr : s1 μ a0 a1 = some o) : mEv mG 1 [.ref a0, .ref a1] μ (some (.int o.1)) (o.2) := by
  obtain ⟨r, hC⟩ : ∃ r : Option Value × mM, r = (some (.int o.1), o.2) := ⟨_, rfl⟩
  show mGo mG (1, List.drop 0 mC1, [.ref a0, .ref a1, .retAddr 0, .retAddr 0], [], μ) (some (.int o.1), o.2)
  rw [← hC]
  unfold s1 at hr
  refine mGo.steps 2 (c' := (1, List.drop 2 mC1, [.ref a0, .ref a1, .int 1, .retAddr 0], [], μ)) rfl ?_
  obtain ⟨o9, h12, hr⟩ := mBi hr
  refine t1L2l a0 a1 1000 (1, μ) o9 h12 ?_ (.retAddr 0) rfl
  cases o9 with
  | inl x10 =>
    show ∀ (w2 : Value) (hw2 : mNotL w2 = true) (w3 : Value) (hw3 : mNotL w3 = true), mGo mG (1, List.drop 17 mC1, [.ref a0, .ref a1, w2, w3], [], x10) r
    intro w2 hw2 w3 hw3
    replace hr : (_) = some _ := hr
    refine mGo.steps 2 (c' := (1, List.drop 19 mC1, [.ref a0, .ref a1, .int 1, w3], [], x10)) rfl ?_
    obtain ⟨o21, h24, hr⟩ := mBi hr
    refine t1L19l a0 a1 1000 (1, x10) o21 h24 ?_ w3 hw3
    cases o21 with
    | inl x22 =>
      show ∀ (w2 : Value) (hw2 : mNotL w2 = true) (w3 : Value) (hw3 : mNotL w3 = true), mGo mG (1, List.drop 34 mC1, [.ref a0, .ref a1, w2, w3], [], x22) r
      intro w2 hw2 w3 hw3
      replace hr : (_) = some _ := hr
      refine mGo.steps 2 (c' := (1, List.drop 36 mC1, [.ref a0, .ref a1, w2, w3], [.ref a1, .ref a0], x22)) rfl ?_
      obtain ⟨h25, hr⟩ := mIf hr
      obtain ⟨q26, h27, hr⟩ := mBi hr
      refine gCall (z := 8) (n := 1) (f := 0) (kind := 1) (a := a0) (As := [.ref a1]) (y := 1) (is := List.drop 37 mC1) (L := [.ref a0, .ref a1, w2, w3]) (rest := []) (μ := x22) rfl (by decide) (by decide) ⟨rfl, rfl⟩ rfl h25 (Nat.le_of_ble_eq_true rfl) (Nat.le_of_ble_eq_true rfl) (t8 h27) ?_
      refine mGo.steps 3 (c' := (1, List.drop 40 mC1, [.ref a0, .ref a1, .int q26.1, .int 1], [], q26.2)) rfl ?_
      obtain ⟨o39, h42, hr⟩ := mBi hr
      refine t1L40l a0 a1 q26.1 1000 (1, q26.2) o39 h42 ?_ 
      cases o39 with
      | inl x40 =>
        show ∀ (w0 : Value) (hw0 : mNotL w0 = true) (w3 : Value) (hw3 : mNotL w3 = true), mGo mG (1, List.drop 62 mC1, [w0, .ref a1, .int q26.1, w3], [], x40) r
        intro w0 hw0 w3 hw3
        replace hr : (_) = some _ := hr
        refine mGo.steps 2 (c' := (1, List.drop 64 mC1, [w0, .ref a1, .int q26.1, w3], [.ref a1, .ref a1], x40)) rfl ?_
        obtain ⟨h43, hr⟩ := mIf hr
        refine gGet (is := List.drop 65 mC1) (v := .int (mI x40 a1 3)) h43 rfl ?_
        refine mGo.steps 2 (c' := (1, List.drop 67 mC1, [w0, .ref a1, .int q26.1, w3], [.int ((mI x40 a1 3) + 1), .ref a1], x40)) rfl ?_
        replace hr := mBs hr
        refine gPut (is := List.drop 68 mC1) (μ' := mUI x40 a1 3 ((mI x40 a1 3) + 1)) h43 rfl ?_
        let μ44 : mM := mUI x40 a1 3 ((mI x40 a1 3) + 1)
        refine mGo.steps 2 (c' := (1, List.drop 70 mC1, [w0, .ref a1, .int q26.1, w3], [.ref a1, .ref a1], μ44)) rfl ?_
        refine gGet (is := List.drop 71 mC1) (v := .int (mI μ44 a1 4)) h43 rfl ?_
        refine mGo.steps 2 (c' := (1, List.drop 73 mC1, [w0, .ref a1, .int q26.1, w3], [.int ((mI μ44 a1 4) + q26.1), .ref a1], μ44)) rfl ?_
        replace hr := mBs hr
        refine gPut (is := List.drop 74 mC1) (μ' := mUI μ44 a1 4 ((mI μ44 a1 4) + q26.1)) h43 rfl ?_
        let μ45 : mM := mUI μ44 a1 4 ((mI μ44 a1 4) + q26.1)
        refine mGo.steps 1 (c' := (1, List.drop 75 mC1, [w0, .ref a1, .int q26.1, w3], [.int q26.1], μ45)) rfl ?_
        obtain rfl := Option.some.inj hr
        rw [show r = _ from hC]
        exact gIret rfl
      | inr y41 =>
        obtain rfl := Option.some.inj hr
        exact hC
    | inr y23 =>
      obtain rfl := Option.some.inj hr
      exact hC
  | inr y11 =>
    obtain rfl := Option.some.inj hr
    exact hC

/-! 51: TunnelFabric$Link.<init>()V -/
def s51 (μ : mM) (a0 : Nat) : Option mM :=
  if ¬ a0 = 0 then (some (mNew μ 10 (Int32.toNatClampNeg 2))).bind fun μ2 => if (mS μ2 a0).1 = 2 then (some (mUP μ2 a0 5 (mNx μ))).bind fun μ4 => (some (mNew μ4 10 (Int32.toNatClampNeg 2))).bind fun μ5 => if (mS μ5 a0).1 = 2 then (some (mUP μ5 a0 6 (mNx μ4))).bind fun μ7 => (some (mNew μ7 10 (Int32.toNatClampNeg 2))).bind fun μ8 => if (mS μ8 a0).1 = 2 then (some (mUP μ8 a0 7 (mNx μ7))).bind fun μ10 => (some (mNew μ10 11 (Int32.toNatClampNeg 2))).bind fun μ11 => if (mS μ11 a0).1 = 2 then (some (mUP μ11 a0 8 (mNx μ10))).bind fun μ13 => some μ13 else none else none else none else none else none
set_option maxRecDepth 20000 in
theorem t51 {μ : mM} {a0 : Nat} {o : mM} (hr : s51 μ a0 = some o) : mEv mG 51 [.ref a0] μ (none) (o) := by
  obtain ⟨r, hC⟩ : ∃ r : Option Value × mM, r = (none, o) := ⟨_, rfl⟩
  show mGo mG (51, List.drop 0 mC51, [.ref a0], [], μ) (none, o)
  rw [← hC]
  unfold s51 at hr
  refine mGo.steps 1 (c' := (51, List.drop 1 mC51, [.ref a0], [.ref a0], μ)) rfl ?_
  obtain ⟨h1, hr⟩ := mIf hr
  refine gObj (is := List.drop 2 mC51) h1 (Nat.le_of_ble_eq_true rfl) ?_
  refine mGo.steps 2 (c' := (51, List.drop 4 mC51, [.ref a0], [.int 2, .ref a0], μ)) rfl ?_
  replace hr := mBs hr
  refine mGo.steps 1 (c' := (51, List.drop 5 mC51, [.ref a0], [.ref (mNx μ), .ref a0], (mNew μ 10 (Int32.toNatClampNeg 2)))) rfl ?_
  let μ2 : mM := mNew μ 10 (Int32.toNatClampNeg 2)
  obtain ⟨h3, hr⟩ := mIf hr
  replace hr := mBs hr
  refine gPut (is := List.drop 6 mC51) (μ' := mUP μ2 a0 5 (mNx μ)) h3 rfl ?_
  let μ4 : mM := mUP μ2 a0 5 (mNx μ)
  refine mGo.steps 2 (c' := (51, List.drop 8 mC51, [.ref a0], [.int 2, .ref a0], μ4)) rfl ?_
  replace hr := mBs hr
  refine mGo.steps 1 (c' := (51, List.drop 9 mC51, [.ref a0], [.ref (mNx μ4), .ref a0], (mNew μ4 10 (Int32.toNatClampNeg 2)))) rfl ?_
  let μ5 : mM := mNew μ4 10 (Int32.toNatClampNeg 2)
  obtain ⟨h6, hr⟩ := mIf hr
  replace hr := mBs hr
  refine gPut (is := List.drop 10 mC51) (μ' := mUP μ5 a0 6 (mNx μ4)) h6 rfl ?_
  let μ7 : mM := mUP μ5 a0 6 (mNx μ4)
  refine mGo.steps 2 (c' := (51, List.drop 12 mC51, [.ref a0], [.int 2, .ref a0], μ7)) rfl ?_
  replace hr := mBs hr
  refine mGo.steps 1 (c' := (51, List.drop 13 mC51, [.ref a0], [.ref (mNx μ7), .ref a0], (mNew μ7 10 (Int32.toNatClampNeg 2)))) rfl ?_
  let μ8 : mM := mNew μ7 10 (Int32.toNatClampNeg 2)
  obtain ⟨h9, hr⟩ := mIf hr
  replace hr := mBs hr
  refine gPut (is := List.drop 14 mC51) (μ' := mUP μ8 a0 7 (mNx μ7)) h9 rfl ?_
  let μ10 : mM := mUP μ8 a0 7 (mNx μ7)
  refine mGo.steps 2 (c' := (51, List.drop 16 mC51, [.ref a0], [.int 2, .ref a0], μ10)) rfl ?_
  replace hr := mBs hr
  refine mGo.steps 1 (c' := (51, List.drop 17 mC51, [.ref a0], [.ref (mNx μ10), .ref a0], (mNew μ10 11 (Int32.toNatClampNeg 2)))) rfl ?_
  let μ11 : mM := mNew μ10 11 (Int32.toNatClampNeg 2)
  obtain ⟨h12, hr⟩ := mIf hr
  replace hr := mBs hr
  refine gPut (is := List.drop 18 mC51) (μ' := mUP μ11 a0 8 (mNx μ10)) h12 rfl ?_
  let μ13 : mM := mUP μ11 a0 8 (mNx μ10)
  obtain rfl := Option.some.inj hr
  rw [show r = _ from hC]
  exact gVret rfl

/-! 69: TunnelFabric$Router.<init>()V -/
def s69 (μ : mM) (a0 : Nat) : Option mM :=
  if ¬ a0 = 0 then (some (mNew μ 2 (mN 2))).bind fun μ2 => if (mS μ2 (mNx μ)).1 = 2 then (s51 μ2 (mNx μ)).bind fun q4 => if (mS q4 a0).1 = 4 then (some (mUP q4 a0 6 (mNx μ))).bind fun μ7 => some μ7 else none else none else none
set_option maxRecDepth 20000 in
theorem t69 {μ : mM} {a0 : Nat} {o : mM} (hr : s69 μ a0 = some o) : mEv mG 69 [.ref a0] μ (none) (o) := by
  obtain ⟨r, hC⟩ : ∃ r : Option Value × mM, r = (none, o) := ⟨_, rfl⟩
  show mGo mG (69, List.drop 0 mC69, [.ref a0], [], μ) (none, o)
  rw [← hC]
  unfold s69 at hr
  refine mGo.steps 1 (c' := (69, List.drop 1 mC69, [.ref a0], [.ref a0], μ)) rfl ?_
  obtain ⟨h1, hr⟩ := mIf hr
  refine gObj (is := List.drop 2 mC69) h1 (Nat.le_of_ble_eq_true rfl) ?_
  refine mGo.steps 1 (c' := (69, List.drop 3 mC69, [.ref a0], [.ref a0], μ)) rfl ?_
  replace hr := mBs hr
  refine mGo.steps 1 (c' := (69, List.drop 4 mC69, [.ref a0], [.ref (mNx μ), .ref a0], (mNew μ 2 (mN 2)))) rfl ?_
  let μ2 : mM := mNew μ 2 (mN 2)
  refine mGo.steps 1 (c' := (69, List.drop 5 mC69, [.ref a0], [.ref (mNx μ), .ref (mNx μ), .ref a0], μ2)) rfl ?_
  obtain ⟨h3, hr⟩ := mIf hr
  obtain ⟨q4, h5, hr⟩ := mBi hr
  refine gCall (z := 51) (n := 0) (f := 1) (kind := 2) (a := (mNx μ)) (As := []) (y := 69) (is := List.drop 6 mC69) (L := [.ref a0]) (rest := [.ref (mNx μ), .ref a0]) (μ := μ2) rfl (by decide) (by decide) ⟨rfl, rfl⟩ rfl h3 (Nat.le_of_ble_eq_true rfl) (Nat.le_of_ble_eq_true rfl) (t51 h5) ?_
  obtain ⟨h6, hr⟩ := mIf hr
  replace hr := mBs hr
  refine gPut (is := List.drop 7 mC69) (μ' := mUP q4 a0 6 (mNx μ)) h6 rfl ?_
  let μ7 : mM := mUP q4 a0 6 (mNx μ)
  obtain rfl := Option.some.inj hr
  rw [show r = _ from hC]
  exact gVret rfl

/-! 86: TunnelFabric$Way.<init>()V -/
def s86 (μ : mM) (a0 : Nat) : Option mM :=
  if ¬ a0 = 0 then (some (mNew μ 10 (Int32.toNatClampNeg 4))).bind fun μ2 => if (mS μ2 a0).1 = 7 then (some (mUP μ2 a0 4 (mNx μ))).bind fun μ4 => (some (mNew μ4 10 (Int32.toNatClampNeg 4))).bind fun μ5 => if (mS μ5 a0).1 = 7 then (some (mUP μ5 a0 5 (mNx μ4))).bind fun μ7 => (some (mNew μ7 10 (Int32.toNatClampNeg 4))).bind fun μ8 => if (mS μ8 a0).1 = 7 then (some (mUP μ8 a0 6 (mNx μ7))).bind fun μ10 => (some (mNew μ10 10 (Int32.toNatClampNeg 4))).bind fun μ11 => if (mS μ11 a0).1 = 7 then (some (mUP μ11 a0 7 (mNx μ10))).bind fun μ13 => (some (mNew μ13 10 (Int32.toNatClampNeg 4))).bind fun μ14 => if (mS μ14 a0).1 = 7 then (some (mUP μ14 a0 8 (mNx μ13))).bind fun μ16 => some μ16 else none else none else none else none else none else none
set_option maxRecDepth 20000 in
theorem t86 {μ : mM} {a0 : Nat} {o : mM} (hr : s86 μ a0 = some o) : mEv mG 86 [.ref a0] μ (none) (o) := by
  obtain ⟨r, hC⟩ : ∃ r : Option Value × mM, r = (none, o) := ⟨_, rfl⟩
  show mGo mG (86, List.drop 0 mC86, [.ref a0], [], μ) (none, o)
  rw [← hC]
  unfold s86 at hr
  refine mGo.steps 1 (c' := (86, List.drop 1 mC86, [.ref a0], [.ref a0], μ)) rfl ?_
  obtain ⟨h1, hr⟩ := mIf hr
  refine gObj (is := List.drop 2 mC86) h1 (Nat.le_of_ble_eq_true rfl) ?_
  refine mGo.steps 2 (c' := (86, List.drop 4 mC86, [.ref a0], [.int 4, .ref a0], μ)) rfl ?_
  replace hr := mBs hr
  refine mGo.steps 1 (c' := (86, List.drop 5 mC86, [.ref a0], [.ref (mNx μ), .ref a0], (mNew μ 10 (Int32.toNatClampNeg 4)))) rfl ?_
  let μ2 : mM := mNew μ 10 (Int32.toNatClampNeg 4)
  obtain ⟨h3, hr⟩ := mIf hr
  replace hr := mBs hr
  refine gPut (is := List.drop 6 mC86) (μ' := mUP μ2 a0 4 (mNx μ)) h3 rfl ?_
  let μ4 : mM := mUP μ2 a0 4 (mNx μ)
  refine mGo.steps 2 (c' := (86, List.drop 8 mC86, [.ref a0], [.int 4, .ref a0], μ4)) rfl ?_
  replace hr := mBs hr
  refine mGo.steps 1 (c' := (86, List.drop 9 mC86, [.ref a0], [.ref (mNx μ4), .ref a0], (mNew μ4 10 (Int32.toNatClampNeg 4)))) rfl ?_
  let μ5 : mM := mNew μ4 10 (Int32.toNatClampNeg 4)
  obtain ⟨h6, hr⟩ := mIf hr
  replace hr := mBs hr
  refine gPut (is := List.drop 10 mC86) (μ' := mUP μ5 a0 5 (mNx μ4)) h6 rfl ?_
  let μ7 : mM := mUP μ5 a0 5 (mNx μ4)
  refine mGo.steps 2 (c' := (86, List.drop 12 mC86, [.ref a0], [.int 4, .ref a0], μ7)) rfl ?_
  replace hr := mBs hr
  refine mGo.steps 1 (c' := (86, List.drop 13 mC86, [.ref a0], [.ref (mNx μ7), .ref a0], (mNew μ7 10 (Int32.toNatClampNeg 4)))) rfl ?_
  let μ8 : mM := mNew μ7 10 (Int32.toNatClampNeg 4)
  obtain ⟨h9, hr⟩ := mIf hr
  replace hr := mBs hr
  refine gPut (is := List.drop 14 mC86) (μ' := mUP μ8 a0 6 (mNx μ7)) h9 rfl ?_
  let μ10 : mM := mUP μ8 a0 6 (mNx μ7)
  refine mGo.steps 2 (c' := (86, List.drop 16 mC86, [.ref a0], [.int 4, .ref a0], μ10)) rfl ?_
  replace hr := mBs hr
  refine mGo.steps 1 (c' := (86, List.drop 17 mC86, [.ref a0], [.ref (mNx μ10), .ref a0], (mNew μ10 10 (Int32.toNatClampNeg 4)))) rfl ?_
  let μ11 : mM := mNew μ10 10 (Int32.toNatClampNeg 4)
  obtain ⟨h12, hr⟩ := mIf hr
  replace hr := mBs hr
  refine gPut (is := List.drop 18 mC86) (μ' := mUP μ11 a0 7 (mNx μ10)) h12 rfl ?_
  let μ13 : mM := mUP μ11 a0 7 (mNx μ10)
  refine mGo.steps 2 (c' := (86, List.drop 20 mC86, [.ref a0], [.int 4, .ref a0], μ13)) rfl ?_
  replace hr := mBs hr
  refine mGo.steps 1 (c' := (86, List.drop 21 mC86, [.ref a0], [.ref (mNx μ13), .ref a0], (mNew μ13 10 (Int32.toNatClampNeg 4)))) rfl ?_
  let μ14 : mM := mNew μ13 10 (Int32.toNatClampNeg 4)
  obtain ⟨h15, hr⟩ := mIf hr
  replace hr := mBs hr
  refine gPut (is := List.drop 22 mC86) (μ' := mUP μ14 a0 8 (mNx μ13)) h15 rfl ?_
  let μ16 : mM := mUP μ14 a0 8 (mNx μ13)
  obtain rfl := Option.some.inj hr
  rw [show r = _ from hC]
  exact gVret rfl

/-! 77: TunnelFabric$Tunnel.<init>()V -/
def s77 (μ : mM) (a0 : Nat) : Option mM :=
  if ¬ a0 = 0 then (some (mNew μ 7 (mN 7))).bind fun μ2 => if (mS μ2 (mNx μ)).1 = 7 then (s86 μ2 (mNx μ)).bind fun q4 => if (mS q4 a0).1 = 6 then (some (mUP q4 a0 6 (mNx μ))).bind fun μ7 => (some (mNew μ7 7 (mN 7))).bind fun μ8 => if (mS μ8 (mNx μ7)).1 = 7 then (s86 μ8 (mNx μ7)).bind fun q10 => if (mS q10 a0).1 = 6 then (some (mUP q10 a0 7 (mNx μ7))).bind fun μ13 => some μ13 else none else none else none else none else none
set_option maxRecDepth 20000 in
theorem t77 {μ : mM} {a0 : Nat} {o : mM} (hr : s77 μ a0 = some o) : mEv mG 77 [.ref a0] μ (none) (o) := by
  obtain ⟨r, hC⟩ : ∃ r : Option Value × mM, r = (none, o) := ⟨_, rfl⟩
  show mGo mG (77, List.drop 0 mC77, [.ref a0], [], μ) (none, o)
  rw [← hC]
  unfold s77 at hr
  refine mGo.steps 1 (c' := (77, List.drop 1 mC77, [.ref a0], [.ref a0], μ)) rfl ?_
  obtain ⟨h1, hr⟩ := mIf hr
  refine gObj (is := List.drop 2 mC77) h1 (Nat.le_of_ble_eq_true rfl) ?_
  refine mGo.steps 1 (c' := (77, List.drop 3 mC77, [.ref a0], [.ref a0], μ)) rfl ?_
  replace hr := mBs hr
  refine mGo.steps 1 (c' := (77, List.drop 4 mC77, [.ref a0], [.ref (mNx μ), .ref a0], (mNew μ 7 (mN 7)))) rfl ?_
  let μ2 : mM := mNew μ 7 (mN 7)
  refine mGo.steps 1 (c' := (77, List.drop 5 mC77, [.ref a0], [.ref (mNx μ), .ref (mNx μ), .ref a0], μ2)) rfl ?_
  obtain ⟨h3, hr⟩ := mIf hr
  obtain ⟨q4, h5, hr⟩ := mBi hr
  refine gCall (z := 86) (n := 0) (f := 1) (kind := 2) (a := (mNx μ)) (As := []) (y := 77) (is := List.drop 6 mC77) (L := [.ref a0]) (rest := [.ref (mNx μ), .ref a0]) (μ := μ2) rfl (by decide) (by decide) ⟨rfl, rfl⟩ rfl h3 (Nat.le_of_ble_eq_true rfl) (Nat.le_of_ble_eq_true rfl) (t86 h5) ?_
  obtain ⟨h6, hr⟩ := mIf hr
  replace hr := mBs hr
  refine gPut (is := List.drop 7 mC77) (μ' := mUP q4 a0 6 (mNx μ)) h6 rfl ?_
  let μ7 : mM := mUP q4 a0 6 (mNx μ)
  refine mGo.steps 1 (c' := (77, List.drop 8 mC77, [.ref a0], [.ref a0], μ7)) rfl ?_
  replace hr := mBs hr
  refine mGo.steps 1 (c' := (77, List.drop 9 mC77, [.ref a0], [.ref (mNx μ7), .ref a0], (mNew μ7 7 (mN 7)))) rfl ?_
  let μ8 : mM := mNew μ7 7 (mN 7)
  refine mGo.steps 1 (c' := (77, List.drop 10 mC77, [.ref a0], [.ref (mNx μ7), .ref (mNx μ7), .ref a0], μ8)) rfl ?_
  obtain ⟨h9, hr⟩ := mIf hr
  obtain ⟨q10, h11, hr⟩ := mBi hr
  refine gCall (z := 86) (n := 0) (f := 1) (kind := 2) (a := (mNx μ7)) (As := []) (y := 77) (is := List.drop 11 mC77) (L := [.ref a0]) (rest := [.ref (mNx μ7), .ref a0]) (μ := μ8) rfl (by decide) (by decide) ⟨rfl, rfl⟩ rfl h9 (Nat.le_of_ble_eq_true rfl) (Nat.le_of_ble_eq_true rfl) (t86 h11) ?_
  obtain ⟨h12, hr⟩ := mIf hr
  replace hr := mBs hr
  refine gPut (is := List.drop 12 mC77) (μ' := mUP q10 a0 7 (mNx μ7)) h12 rfl ?_
  let μ13 : mM := mUP q10 a0 7 (mNx μ7)
  obtain rfl := Option.some.inj hr
  rw [show r = _ from hC]
  exact gVret rfl

/-! 12: TunnelFabric$Fabric.<init>()V -/
def s12L15 (p0 : Nat) (s : Int32 × mM) : Option ((Int32 × mM) ⊕ ((mM) ⊕ mM)) :=
  if 8 ≤ s.1 then (some (.inr (.inl s.2))) else (if (mS s.2 p0).1 = 1 then (some (mNew s.2 4 (mN 4))).bind fun μ10 => if (mS μ10 (mNx s.2)).1 = 4 then (s69 μ10 (mNx s.2)).bind fun q12 => if (mS q12 (mP s.2 p0 0)).1 = 20 + 4 ∧ mInb s.1 (mS q12 (mP s.2 p0 0)).2 then if (mS q12 (mNx s.2)).1 = 4 ∧ 4 < 10 then (some (mUP q12 (mP s.2 p0 0) (Int32.toNatClampNeg s.1) (mNx s.2))).bind fun μ16 => some (.inl (s.1 + 1, μ16)) else none else none else none else none)
set_option maxRecDepth 20000 in
theorem t12L15 (p0 : Nat) {r : Option Value × mM} (s : Int32 × mM) (o : ((Int32 × mM) ⊕ ((mM) ⊕ mM))) (hr : s12L15 p0 s = some o) (hC : Sum.elim (fun s' : Int32 × mM => mGo mG (12, List.drop 15 mC12, [.ref p0, .int s'.1], [], s'.2) r) (Sum.elim (fun x : mM => ∀ (w1 : Value) (hw1 : mNotL w1 = true), mGo mG (12, List.drop 27 mC12, [.ref p0, w1], [], x) r) (fun y : mM => r = (none, y))) o) : mGo mG (12, List.drop 15 mC12, [.ref p0, .int s.1], [], s.2) r := by
  unfold s12L15 at hr
  refine mGo.steps 2 (c' := (12, List.drop 17 mC12, [.ref p0, .int s.1], [.int 8, .int s.1], s.2)) rfl ?_
  rcases mIte hr with ⟨h17, hr⟩ | ⟨h17, hr⟩
  · refine gBrT (p := 8 ≤ s.1) (y := 12) (is := List.drop 18 mC12) (L := [.ref p0, .int s.1]) (st := []) (μ := s.2) (t := 54) rfl h17 ?_
    obtain rfl := Option.some.inj hr
    exact hC (.int s.1) rfl
  · refine gBrF (p := 8 ≤ s.1) (y := 12) (is := List.drop 18 mC12) (L := [.ref p0, .int s.1]) (st := []) (μ := s.2) (t := 54) rfl h17 ?_
    refine mGo.steps 1 (c' := (12, List.drop 19 mC12, [.ref p0, .int s.1], [.ref p0], s.2)) rfl ?_
    obtain ⟨h9, hr⟩ := mIf hr
    refine gGet (is := List.drop 20 mC12) (v := .ref (mP s.2 p0 0)) h9 rfl ?_
    refine mGo.steps 1 (c' := (12, List.drop 21 mC12, [.ref p0, .int s.1], [.int s.1, .ref (mP s.2 p0 0)], s.2)) rfl ?_
    replace hr := mBs hr
    refine mGo.steps 1 (c' := (12, List.drop 22 mC12, [.ref p0, .int s.1], [.ref (mNx s.2), .int s.1, .ref (mP s.2 p0 0)], (mNew s.2 4 (mN 4)))) rfl ?_
    let μ10 : mM := mNew s.2 4 (mN 4)
    refine mGo.steps 1 (c' := (12, List.drop 23 mC12, [.ref p0, .int s.1], [.ref (mNx s.2), .ref (mNx s.2), .int s.1, .ref (mP s.2 p0 0)], μ10)) rfl ?_
    obtain ⟨h11, hr⟩ := mIf hr
    obtain ⟨q12, h13, hr⟩ := mBi hr
    refine gCall (z := 69) (n := 0) (f := 1) (kind := 2) (a := (mNx s.2)) (As := []) (y := 12) (is := List.drop 24 mC12) (L := [.ref p0, .int s.1]) (rest := [.ref (mNx s.2), .int s.1, .ref (mP s.2 p0 0)]) (μ := μ10) rfl (by decide) (by decide) ⟨rfl, rfl⟩ rfl h11 (Nat.le_of_ble_eq_true rfl) (Nat.le_of_ble_eq_true rfl) (t69 h13) ?_
    obtain ⟨h14, hr⟩ := mIf hr
    obtain ⟨h15, hr⟩ := mIf hr
    replace hr := mBs hr
    refine gAast (is := List.drop 25 mC12) h14 h15 ?_
    let μ16 : mM := mUP q12 (mP s.2 p0 0) (Int32.toNatClampNeg s.1) (mNx s.2)
    refine mGo.steps 2 (c' := (12, List.drop 15 mC12, [.ref p0, .int (s.1 + 1)], [], μ16)) rfl ?_
    obtain rfl := Option.some.inj hr
    exact hC
theorem t12L15l (p0 : Nat) {r : Option Value × mM} (n : Nat) (s : Int32 × mM) (o : (mM) ⊕ mM) (hr : mLoop (s12L15 p0) n s = some o) (hC : Sum.elim (fun x : mM => ∀ (w1 : Value) (hw1 : mNotL w1 = true), mGo mG (12, List.drop 27 mC12, [.ref p0, w1], [], x) r) (fun y : mM => r = (none, y)) o) : mGo mG (12, List.drop 15 mC12, [.ref p0, .int s.1], [], s.2) r :=
  mLoop_go (Hd := (fun s' : Int32 × mM => mGo mG (12, List.drop 15 mC12, [.ref p0, .int s'.1], [], s'.2) r)) (fun s o hb hC => t12L15 p0 s o hb hC) n s o hr hC
def s12L29 (p0 : Nat) (s : Int32 × mM) : Option ((Int32 × mM) ⊕ ((mM) ⊕ mM)) :=
  if 10 ≤ s.1 then (some (.inr (.inl s.2))) else (if (mS s.2 p0).1 = 1 then (some (mNew s.2 6 (mN 6))).bind fun μ23 => if (mS μ23 (mNx s.2)).1 = 6 then (s77 μ23 (mNx s.2)).bind fun q25 => if (mS q25 (mP s.2 p0 1)).1 = 20 + 6 ∧ mInb s.1 (mS q25 (mP s.2 p0 1)).2 then if (mS q25 (mNx s.2)).1 = 6 ∧ 6 < 10 then (some (mUP q25 (mP s.2 p0 1) (Int32.toNatClampNeg s.1) (mNx s.2))).bind fun μ29 => some (.inl (s.1 + 1, μ29)) else none else none else none else none)
set_option maxRecDepth 20000 in
theorem t12L29 (p0 : Nat) {r : Option Value × mM} (s : Int32 × mM) (o : ((Int32 × mM) ⊕ ((mM) ⊕ mM))) (hr : s12L29 p0 s = some o) (hC : Sum.elim (fun s' : Int32 × mM => mGo mG (12, List.drop 29 mC12, [.ref p0, .int s'.1], [], s'.2) r) (Sum.elim (fun x : mM => ∀ (w1 : Value) (hw1 : mNotL w1 = true), mGo mG (12, List.drop 41 mC12, [.ref p0, w1], [], x) r) (fun y : mM => r = (none, y))) o) : mGo mG (12, List.drop 29 mC12, [.ref p0, .int s.1], [], s.2) r := by
  unfold s12L29 at hr
  refine mGo.steps 2 (c' := (12, List.drop 31 mC12, [.ref p0, .int s.1], [.int 10, .int s.1], s.2)) rfl ?_
  rcases mIte hr with ⟨h30, hr⟩ | ⟨h30, hr⟩
  · refine gBrT (p := 10 ≤ s.1) (y := 12) (is := List.drop 32 mC12) (L := [.ref p0, .int s.1]) (st := []) (μ := s.2) (t := 81) rfl h30 ?_
    obtain rfl := Option.some.inj hr
    exact hC (.int s.1) rfl
  · refine gBrF (p := 10 ≤ s.1) (y := 12) (is := List.drop 32 mC12) (L := [.ref p0, .int s.1]) (st := []) (μ := s.2) (t := 81) rfl h30 ?_
    refine mGo.steps 1 (c' := (12, List.drop 33 mC12, [.ref p0, .int s.1], [.ref p0], s.2)) rfl ?_
    obtain ⟨h22, hr⟩ := mIf hr
    refine gGet (is := List.drop 34 mC12) (v := .ref (mP s.2 p0 1)) h22 rfl ?_
    refine mGo.steps 1 (c' := (12, List.drop 35 mC12, [.ref p0, .int s.1], [.int s.1, .ref (mP s.2 p0 1)], s.2)) rfl ?_
    replace hr := mBs hr
    refine mGo.steps 1 (c' := (12, List.drop 36 mC12, [.ref p0, .int s.1], [.ref (mNx s.2), .int s.1, .ref (mP s.2 p0 1)], (mNew s.2 6 (mN 6)))) rfl ?_
    let μ23 : mM := mNew s.2 6 (mN 6)
    refine mGo.steps 1 (c' := (12, List.drop 37 mC12, [.ref p0, .int s.1], [.ref (mNx s.2), .ref (mNx s.2), .int s.1, .ref (mP s.2 p0 1)], μ23)) rfl ?_
    obtain ⟨h24, hr⟩ := mIf hr
    obtain ⟨q25, h26, hr⟩ := mBi hr
    refine gCall (z := 77) (n := 0) (f := 1) (kind := 2) (a := (mNx s.2)) (As := []) (y := 12) (is := List.drop 38 mC12) (L := [.ref p0, .int s.1]) (rest := [.ref (mNx s.2), .int s.1, .ref (mP s.2 p0 1)]) (μ := μ23) rfl (by decide) (by decide) ⟨rfl, rfl⟩ rfl h24 (Nat.le_of_ble_eq_true rfl) (Nat.le_of_ble_eq_true rfl) (t77 h26) ?_
    obtain ⟨h27, hr⟩ := mIf hr
    obtain ⟨h28, hr⟩ := mIf hr
    replace hr := mBs hr
    refine gAast (is := List.drop 39 mC12) h27 h28 ?_
    let μ29 : mM := mUP q25 (mP s.2 p0 1) (Int32.toNatClampNeg s.1) (mNx s.2)
    refine mGo.steps 2 (c' := (12, List.drop 29 mC12, [.ref p0, .int (s.1 + 1)], [], μ29)) rfl ?_
    obtain rfl := Option.some.inj hr
    exact hC
theorem t12L29l (p0 : Nat) {r : Option Value × mM} (n : Nat) (s : Int32 × mM) (o : (mM) ⊕ mM) (hr : mLoop (s12L29 p0) n s = some o) (hC : Sum.elim (fun x : mM => ∀ (w1 : Value) (hw1 : mNotL w1 = true), mGo mG (12, List.drop 41 mC12, [.ref p0, w1], [], x) r) (fun y : mM => r = (none, y)) o) : mGo mG (12, List.drop 29 mC12, [.ref p0, .int s.1], [], s.2) r :=
  mLoop_go (Hd := (fun s' : Int32 × mM => mGo mG (12, List.drop 29 mC12, [.ref p0, .int s'.1], [], s'.2) r)) (fun s o hb hC => t12L29 p0 s o hb hC) n s o hr hC
def s12 (μ : mM) (a0 : Nat) : Option mM :=
  if ¬ a0 = 0 then (some (mNew μ (20 + 4) (Int32.toNatClampNeg 8))).bind fun μ2 => if (mS μ2 a0).1 = 1 then (some (mUP μ2 a0 0 (mNx μ))).bind fun μ4 => (some (mNew μ4 (20 + 6) (Int32.toNatClampNeg 10))).bind fun μ5 => if (mS μ5 a0).1 = 1 then (some (mUP μ5 a0 1 (mNx μ4))).bind fun μ7 => (some (mUI μ7 a0 2 3)).bind fun μ8 => (mLoop (s12L15 a0) 1000 (0, μ8)).bind fun o18 => Sum.elim (fun x19 => (mLoop (s12L29 a0) 1000 (0, x19)).bind fun o31 => Sum.elim (fun x32 => if (mS x32 a0).1 = 1 then if (mS x32 (mP x32 a0 0)).1 = 20 + 4 ∧ mInb 0 (mS x32 (mP x32 a0 0)).2 then if (mS x32 (mP x32 (mP x32 a0 0) (Int32.toNatClampNeg 0))).1 = 4 then (some (mUI x32 (mP x32 (mP x32 a0 0) (Int32.toNatClampNeg 0)) 0 1)).bind fun μ38 => if (mS μ38 (mP μ38 a0 0)).1 = 20 + 4 ∧ mInb 0 (mS μ38 (mP μ38 a0 0)).2 then if (mS μ38 (mP μ38 (mP μ38 a0 0) (Int32.toNatClampNeg 0))).1 = 4 then (some (mUI μ38 (mP μ38 (mP μ38 a0 0) (Int32.toNatClampNeg 0)) 1 4)).bind fun μ41 => if (mS μ41 (mP μ41 a0 0)).1 = 20 + 4 ∧ mInb 0 (mS μ41 (mP μ41 a0 0)).2 then if (mS μ41 (mP μ41 (mP μ41 a0 0) (Int32.toNatClampNeg 0))).1 = 4 then (some (mUI μ41 (mP μ41 (mP μ41 a0 0) (Int32.toNatClampNeg 0)) 2 3)).bind fun μ44 => some μ44 else none else none else none else none else none else none else none) (fun y33 => some y33) o31) (fun y20 => some y20) o18 else none else none else none
set_option maxRecDepth 20000 in
theorem t12 {μ : mM} {a0 : Nat} {o : mM} (hr : s12 μ a0 = some o) : mEv mG 12 [.ref a0] μ (none) (o) := by
  obtain ⟨r, hC⟩ : ∃ r : Option Value × mM, r = (none, o) := ⟨_, rfl⟩
  show mGo mG (12, List.drop 0 mC12, [.ref a0, .retAddr 0], [], μ) (none, o)
  rw [← hC]
  unfold s12 at hr
  refine mGo.steps 1 (c' := (12, List.drop 1 mC12, [.ref a0, .retAddr 0], [.ref a0], μ)) rfl ?_
  obtain ⟨h1, hr⟩ := mIf hr
  refine gObj (is := List.drop 2 mC12) h1 (Nat.le_of_ble_eq_true rfl) ?_
  refine mGo.steps 2 (c' := (12, List.drop 4 mC12, [.ref a0, .retAddr 0], [.int 8, .ref a0], μ)) rfl ?_
  replace hr := mBs hr
  refine mGo.steps 1 (c' := (12, List.drop 5 mC12, [.ref a0, .retAddr 0], [.ref (mNx μ), .ref a0], (mNew μ (20 + 4) (Int32.toNatClampNeg 8)))) rfl ?_
  let μ2 : mM := mNew μ (20 + 4) (Int32.toNatClampNeg 8)
  obtain ⟨h3, hr⟩ := mIf hr
  replace hr := mBs hr
  refine gPut (is := List.drop 6 mC12) (μ' := mUP μ2 a0 0 (mNx μ)) h3 rfl ?_
  let μ4 : mM := mUP μ2 a0 0 (mNx μ)
  refine mGo.steps 2 (c' := (12, List.drop 8 mC12, [.ref a0, .retAddr 0], [.int 10, .ref a0], μ4)) rfl ?_
  replace hr := mBs hr
  refine mGo.steps 1 (c' := (12, List.drop 9 mC12, [.ref a0, .retAddr 0], [.ref (mNx μ4), .ref a0], (mNew μ4 (20 + 6) (Int32.toNatClampNeg 10)))) rfl ?_
  let μ5 : mM := mNew μ4 (20 + 6) (Int32.toNatClampNeg 10)
  obtain ⟨h6, hr⟩ := mIf hr
  replace hr := mBs hr
  refine gPut (is := List.drop 10 mC12) (μ' := mUP μ5 a0 1 (mNx μ4)) h6 rfl ?_
  let μ7 : mM := mUP μ5 a0 1 (mNx μ4)
  refine mGo.steps 2 (c' := (12, List.drop 12 mC12, [.ref a0, .retAddr 0], [.int 3, .ref a0], μ7)) rfl ?_
  replace hr := mBs hr
  refine gPut (is := List.drop 13 mC12) (μ' := mUI μ7 a0 2 3) h6 rfl ?_
  let μ8 : mM := mUI μ7 a0 2 3
  refine mGo.steps 2 (c' := (12, List.drop 15 mC12, [.ref a0, .int 0], [], μ8)) rfl ?_
  obtain ⟨o18, h21, hr⟩ := mBi hr
  refine t12L15l a0 1000 (0, μ8) o18 h21 ?_ 
  cases o18 with
  | inl x19 =>
    show ∀ (w1 : Value) (hw1 : mNotL w1 = true), mGo mG (12, List.drop 27 mC12, [.ref a0, w1], [], x19) r
    intro w1 hw1
    replace hr : (_) = some _ := hr
    refine mGo.steps 2 (c' := (12, List.drop 29 mC12, [.ref a0, .int 0], [], x19)) rfl ?_
    obtain ⟨o31, h34, hr⟩ := mBi hr
    refine t12L29l a0 1000 (0, x19) o31 h34 ?_ 
    cases o31 with
    | inl x32 =>
      show ∀ (w1 : Value) (hw1 : mNotL w1 = true), mGo mG (12, List.drop 41 mC12, [.ref a0, w1], [], x32) r
      intro w1 hw1
      replace hr : (_) = some _ := hr
      refine mGo.steps 1 (c' := (12, List.drop 42 mC12, [.ref a0, w1], [.ref a0], x32)) rfl ?_
      obtain ⟨h35, hr⟩ := mIf hr
      refine gGet (is := List.drop 43 mC12) (v := .ref (mP x32 a0 0)) h35 rfl ?_
      refine mGo.steps 1 (c' := (12, List.drop 44 mC12, [.ref a0, w1], [.int 0, .ref (mP x32 a0 0)], x32)) rfl ?_
      obtain ⟨h36, hr⟩ := mIf hr
      refine gAald (is := List.drop 45 mC12) h36 ?_
      refine mGo.steps 1 (c' := (12, List.drop 46 mC12, [.ref a0, w1], [.int 1, .ref (mP x32 (mP x32 a0 0) (Int32.toNatClampNeg 0))], x32)) rfl ?_
      obtain ⟨h37, hr⟩ := mIf hr
      replace hr := mBs hr
      refine gPut (is := List.drop 47 mC12) (μ' := mUI x32 (mP x32 (mP x32 a0 0) (Int32.toNatClampNeg 0)) 0 1) h37 (gZ (by decide)) ?_
      let μ38 : mM := mUI x32 (mP x32 (mP x32 a0 0) (Int32.toNatClampNeg 0)) 0 1
      refine mGo.steps 1 (c' := (12, List.drop 48 mC12, [.ref a0, w1], [.ref a0], μ38)) rfl ?_
      refine gGet (is := List.drop 49 mC12) (v := .ref (mP μ38 a0 0)) h35 rfl ?_
      refine mGo.steps 1 (c' := (12, List.drop 50 mC12, [.ref a0, w1], [.int 0, .ref (mP μ38 a0 0)], μ38)) rfl ?_
      obtain ⟨h39, hr⟩ := mIf hr
      refine gAald (is := List.drop 51 mC12) h39 ?_
      refine mGo.steps 1 (c' := (12, List.drop 52 mC12, [.ref a0, w1], [.int 4, .ref (mP μ38 (mP μ38 a0 0) (Int32.toNatClampNeg 0))], μ38)) rfl ?_
      obtain ⟨h40, hr⟩ := mIf hr
      replace hr := mBs hr
      refine gPut (is := List.drop 53 mC12) (μ' := mUI μ38 (mP μ38 (mP μ38 a0 0) (Int32.toNatClampNeg 0)) 1 4) h40 rfl ?_
      let μ41 : mM := mUI μ38 (mP μ38 (mP μ38 a0 0) (Int32.toNatClampNeg 0)) 1 4
      refine mGo.steps 1 (c' := (12, List.drop 54 mC12, [.ref a0, w1], [.ref a0], μ41)) rfl ?_
      refine gGet (is := List.drop 55 mC12) (v := .ref (mP μ41 a0 0)) h35 rfl ?_
      refine mGo.steps 1 (c' := (12, List.drop 56 mC12, [.ref a0, w1], [.int 0, .ref (mP μ41 a0 0)], μ41)) rfl ?_
      obtain ⟨h42, hr⟩ := mIf hr
      refine gAald (is := List.drop 57 mC12) h42 ?_
      refine mGo.steps 1 (c' := (12, List.drop 58 mC12, [.ref a0, w1], [.int 3, .ref (mP μ41 (mP μ41 a0 0) (Int32.toNatClampNeg 0))], μ41)) rfl ?_
      obtain ⟨h43, hr⟩ := mIf hr
      replace hr := mBs hr
      refine gPut (is := List.drop 59 mC12) (μ' := mUI μ41 (mP μ41 (mP μ41 a0 0) (Int32.toNatClampNeg 0)) 2 3) h43 rfl ?_
      let μ44 : mM := mUI μ41 (mP μ41 (mP μ41 a0 0) (Int32.toNatClampNeg 0)) 2 3
      obtain rfl := Option.some.inj hr
      rw [show r = _ from hC]
      exact gVret rfl
    | inr y33 =>
      obtain rfl := Option.some.inj hr
      exact hC
  | inr y20 =>
    obtain rfl := Option.some.inj hr
    exact hC

/-! 58: TunnelFabric$Link.copyFrom(LTunnelFabric$Link;)V -/
def s58L22 (p0 : Nat) (p1 : Nat) (s : Int32 × mM) : Option ((Int32 × mM) ⊕ ((mM) ⊕ mM)) :=
  if 2 ≤ s.1 then (some (.inr (.inl s.2))) else (if (mS s.2 p0).1 = 2 then if (mS s.2 p1).1 = 2 then if (mS s.2 (mP s.2 p1 5)).1 = 10 ∧ mInb s.1 (mS s.2 (mP s.2 p1 5)).2 then if (mS s.2 (mP s.2 p0 5)).1 = 10 ∧ mInb s.1 (mS s.2 (mP s.2 p0 5)).2 then (some (mUI s.2 (mP s.2 p0 5) (Int32.toNatClampNeg s.1) (mI s.2 (mP s.2 p1 5) (Int32.toNatClampNeg s.1)))).bind fun μ13 => if (mS μ13 (mP μ13 p1 6)).1 = 10 ∧ mInb s.1 (mS μ13 (mP μ13 p1 6)).2 then if (mS μ13 (mP μ13 p0 6)).1 = 10 ∧ mInb s.1 (mS μ13 (mP μ13 p0 6)).2 then (some (mUI μ13 (mP μ13 p0 6) (Int32.toNatClampNeg s.1) (mI μ13 (mP μ13 p1 6) (Int32.toNatClampNeg s.1)))).bind fun μ16 => if (mS μ16 (mP μ16 p1 7)).1 = 10 ∧ mInb s.1 (mS μ16 (mP μ16 p1 7)).2 then if (mS μ16 (mP μ16 p0 7)).1 = 10 ∧ mInb s.1 (mS μ16 (mP μ16 p0 7)).2 then (some (mUI μ16 (mP μ16 p0 7) (Int32.toNatClampNeg s.1) (mI μ16 (mP μ16 p1 7) (Int32.toNatClampNeg s.1)))).bind fun μ19 => if (mS μ19 (mP μ19 p1 8)).1 = 11 ∧ mInb s.1 (mS μ19 (mP μ19 p1 8)).2 then if (mS μ19 (mP μ19 p0 8)).1 = 11 ∧ mInb s.1 (mS μ19 (mP μ19 p0 8)).2 then (some (mUF μ19 (mP μ19 p0 8) (Int32.toNatClampNeg s.1) (mF μ19 (mP μ19 p1 8) (Int32.toNatClampNeg s.1)))).bind fun μ22 => some (.inl (s.1 + 1, μ22)) else none else none else none else none else none else none else none else none else none else none)
set_option maxRecDepth 20000 in
theorem t58L22 (p0 : Nat) (p1 : Nat) {r : Option Value × mM} (s : Int32 × mM) (o : ((Int32 × mM) ⊕ ((mM) ⊕ mM))) (hr : s58L22 p0 p1 s = some o) (hC : Sum.elim (fun s' : Int32 × mM => mGo mG (58, List.drop 22 mC58, [.ref p0, .ref p1, .int s'.1], [], s'.2) r) (Sum.elim (fun x : mM => ∀ (w0 : Value) (hw0 : mNotL w0 = true) (w1 : Value) (hw1 : mNotL w1 = true) (w2 : Value) (hw2 : mNotL w2 = true), mGo mG (58, List.drop 59 mC58, [w0, w1, w2], [], x) r) (fun y : mM => r = (none, y))) o) : mGo mG (58, List.drop 22 mC58, [.ref p0, .ref p1, .int s.1], [], s.2) r := by
  unfold s58L22 at hr
  refine mGo.steps 2 (c' := (58, List.drop 24 mC58, [.ref p0, .ref p1, .int s.1], [.int 2, .int s.1], s.2)) rfl ?_
  rcases mIte hr with ⟨h23, hr⟩ | ⟨h23, hr⟩
  · refine gBrT (p := 2 ≤ s.1) (y := 58) (is := List.drop 25 mC58) (L := [.ref p0, .ref p1, .int s.1]) (st := []) (μ := s.2) (t := 101) rfl h23 ?_
    obtain rfl := Option.some.inj hr
    exact hC (.ref p0) rfl (.ref p1) rfl (.int s.1) rfl
  · refine gBrF (p := 2 ≤ s.1) (y := 58) (is := List.drop 25 mC58) (L := [.ref p0, .ref p1, .int s.1]) (st := []) (μ := s.2) (t := 101) rfl h23 ?_
    refine mGo.steps 1 (c' := (58, List.drop 26 mC58, [.ref p0, .ref p1, .int s.1], [.ref p0], s.2)) rfl ?_
    obtain ⟨h9, hr⟩ := mIf hr
    refine gGet (is := List.drop 27 mC58) (v := .ref (mP s.2 p0 5)) h9 rfl ?_
    refine mGo.steps 2 (c' := (58, List.drop 29 mC58, [.ref p0, .ref p1, .int s.1], [.ref p1, .int s.1, .ref (mP s.2 p0 5)], s.2)) rfl ?_
    obtain ⟨h10, hr⟩ := mIf hr
    refine gGet (is := List.drop 30 mC58) (v := .ref (mP s.2 p1 5)) h10 rfl ?_
    refine mGo.steps 1 (c' := (58, List.drop 31 mC58, [.ref p0, .ref p1, .int s.1], [.int s.1, .ref (mP s.2 p1 5), .int s.1, .ref (mP s.2 p0 5)], s.2)) rfl ?_
    obtain ⟨h11, hr⟩ := mIf hr
    refine gIald (is := List.drop 32 mC58) h11 ?_
    obtain ⟨h12, hr⟩ := mIf hr
    replace hr := mBs hr
    refine gIast (is := List.drop 33 mC58) h12 ?_
    let μ13 : mM := mUI s.2 (mP s.2 p0 5) (Int32.toNatClampNeg s.1) (mI s.2 (mP s.2 p1 5) (Int32.toNatClampNeg s.1))
    refine mGo.steps 1 (c' := (58, List.drop 34 mC58, [.ref p0, .ref p1, .int s.1], [.ref p0], μ13)) rfl ?_
    refine gGet (is := List.drop 35 mC58) (v := .ref (mP μ13 p0 6)) h9 rfl ?_
    refine mGo.steps 2 (c' := (58, List.drop 37 mC58, [.ref p0, .ref p1, .int s.1], [.ref p1, .int s.1, .ref (mP μ13 p0 6)], μ13)) rfl ?_
    refine gGet (is := List.drop 38 mC58) (v := .ref (mP μ13 p1 6)) h10 rfl ?_
    refine mGo.steps 1 (c' := (58, List.drop 39 mC58, [.ref p0, .ref p1, .int s.1], [.int s.1, .ref (mP μ13 p1 6), .int s.1, .ref (mP μ13 p0 6)], μ13)) rfl ?_
    obtain ⟨h14, hr⟩ := mIf hr
    refine gIald (is := List.drop 40 mC58) h14 ?_
    obtain ⟨h15, hr⟩ := mIf hr
    replace hr := mBs hr
    refine gIast (is := List.drop 41 mC58) h15 ?_
    let μ16 : mM := mUI μ13 (mP μ13 p0 6) (Int32.toNatClampNeg s.1) (mI μ13 (mP μ13 p1 6) (Int32.toNatClampNeg s.1))
    refine mGo.steps 1 (c' := (58, List.drop 42 mC58, [.ref p0, .ref p1, .int s.1], [.ref p0], μ16)) rfl ?_
    refine gGet (is := List.drop 43 mC58) (v := .ref (mP μ16 p0 7)) h9 rfl ?_
    refine mGo.steps 2 (c' := (58, List.drop 45 mC58, [.ref p0, .ref p1, .int s.1], [.ref p1, .int s.1, .ref (mP μ16 p0 7)], μ16)) rfl ?_
    refine gGet (is := List.drop 46 mC58) (v := .ref (mP μ16 p1 7)) h10 rfl ?_
    refine mGo.steps 1 (c' := (58, List.drop 47 mC58, [.ref p0, .ref p1, .int s.1], [.int s.1, .ref (mP μ16 p1 7), .int s.1, .ref (mP μ16 p0 7)], μ16)) rfl ?_
    obtain ⟨h17, hr⟩ := mIf hr
    refine gIald (is := List.drop 48 mC58) h17 ?_
    obtain ⟨h18, hr⟩ := mIf hr
    replace hr := mBs hr
    refine gIast (is := List.drop 49 mC58) h18 ?_
    let μ19 : mM := mUI μ16 (mP μ16 p0 7) (Int32.toNatClampNeg s.1) (mI μ16 (mP μ16 p1 7) (Int32.toNatClampNeg s.1))
    refine mGo.steps 1 (c' := (58, List.drop 50 mC58, [.ref p0, .ref p1, .int s.1], [.ref p0], μ19)) rfl ?_
    refine gGet (is := List.drop 51 mC58) (v := .ref (mP μ19 p0 8)) h9 rfl ?_
    refine mGo.steps 2 (c' := (58, List.drop 53 mC58, [.ref p0, .ref p1, .int s.1], [.ref p1, .int s.1, .ref (mP μ19 p0 8)], μ19)) rfl ?_
    refine gGet (is := List.drop 54 mC58) (v := .ref (mP μ19 p1 8)) h10 rfl ?_
    refine mGo.steps 1 (c' := (58, List.drop 55 mC58, [.ref p0, .ref p1, .int s.1], [.int s.1, .ref (mP μ19 p1 8), .int s.1, .ref (mP μ19 p0 8)], μ19)) rfl ?_
    obtain ⟨h20, hr⟩ := mIf hr
    refine gFald (is := List.drop 56 mC58) h20 ?_
    obtain ⟨h21, hr⟩ := mIf hr
    replace hr := mBs hr
    refine gFast (is := List.drop 57 mC58) h21 ?_
    let μ22 : mM := mUF μ19 (mP μ19 p0 8) (Int32.toNatClampNeg s.1) (mF μ19 (mP μ19 p1 8) (Int32.toNatClampNeg s.1))
    refine mGo.steps 2 (c' := (58, List.drop 22 mC58, [.ref p0, .ref p1, .int (s.1 + 1)], [], μ22)) rfl ?_
    obtain rfl := Option.some.inj hr
    exact hC
theorem t58L22l (p0 : Nat) (p1 : Nat) {r : Option Value × mM} (n : Nat) (s : Int32 × mM) (o : (mM) ⊕ mM) (hr : mLoop (s58L22 p0 p1) n s = some o) (hC : Sum.elim (fun x : mM => ∀ (w0 : Value) (hw0 : mNotL w0 = true) (w1 : Value) (hw1 : mNotL w1 = true) (w2 : Value) (hw2 : mNotL w2 = true), mGo mG (58, List.drop 59 mC58, [w0, w1, w2], [], x) r) (fun y : mM => r = (none, y)) o) : mGo mG (58, List.drop 22 mC58, [.ref p0, .ref p1, .int s.1], [], s.2) r :=
  mLoop_go (Hd := (fun s' : Int32 × mM => mGo mG (58, List.drop 22 mC58, [.ref p0, .ref p1, .int s'.1], [], s'.2) r)) (fun s o hb hC => t58L22 p0 p1 s o hb hC) n s o hr hC
def s58 (μ : mM) (a0 : Nat) (a1 : Nat) : Option mM :=
  if (mS μ a1).1 = 2 then if (mS μ a0).1 = 2 then (some (mUI μ a0 0 (mI μ a1 0))).bind fun μ3 => if (mI μ3 a1 1) = 0 ∨ (mI μ3 a1 1) = 1 then (some (mUI μ3 a0 1 (mI μ3 a1 1))).bind fun μ5 => (some (mUI μ5 a0 2 (mI μ5 a1 2))).bind fun μ6 => (some (mUI μ6 a0 3 (mI μ6 a1 3))).bind fun μ7 => (some (mUI μ7 a0 4 (mI μ7 a1 4))).bind fun μ8 => (mLoop (s58L22 a0 a1) 1000 (0, μ8)).bind fun o24 => Sum.elim (fun x25 => some x25) (fun y26 => some y26) o24 else none else none else none
set_option maxRecDepth 20000 in
theorem t58 {μ : mM} {a0 : Nat} {a1 : Nat} {o : mM} (hr : s58 μ a0 a1 = some o) : mEv mG 58 [.ref a0, .ref a1] μ (none) (o) := by
  obtain ⟨r, hC⟩ : ∃ r : Option Value × mM, r = (none, o) := ⟨_, rfl⟩
  show mGo mG (58, List.drop 0 mC58, [.ref a0, .ref a1, .retAddr 0], [], μ) (none, o)
  rw [← hC]
  unfold s58 at hr
  refine mGo.steps 2 (c' := (58, List.drop 2 mC58, [.ref a0, .ref a1, .retAddr 0], [.ref a1, .ref a0], μ)) rfl ?_
  obtain ⟨h1, hr⟩ := mIf hr
  refine gGet (is := List.drop 3 mC58) (v := .int (mI μ a1 0)) h1 rfl ?_
  obtain ⟨h2, hr⟩ := mIf hr
  replace hr := mBs hr
  refine gPut (is := List.drop 4 mC58) (μ' := mUI μ a0 0 (mI μ a1 0)) h2 rfl ?_
  let μ3 : mM := mUI μ a0 0 (mI μ a1 0)
  refine mGo.steps 2 (c' := (58, List.drop 6 mC58, [.ref a0, .ref a1, .retAddr 0], [.ref a1, .ref a0], μ3)) rfl ?_
  refine gGet (is := List.drop 7 mC58) (v := .int (mI μ3 a1 1)) h1 rfl ?_
  obtain ⟨h4, hr⟩ := mIf hr
  replace hr := mBs hr
  refine gPut (is := List.drop 8 mC58) (μ' := mUI μ3 a0 1 (mI μ3 a1 1)) h2 (gZ h4) ?_
  let μ5 : mM := mUI μ3 a0 1 (mI μ3 a1 1)
  refine mGo.steps 2 (c' := (58, List.drop 10 mC58, [.ref a0, .ref a1, .retAddr 0], [.ref a1, .ref a0], μ5)) rfl ?_
  refine gGet (is := List.drop 11 mC58) (v := .int (mI μ5 a1 2)) h1 rfl ?_
  replace hr := mBs hr
  refine gPut (is := List.drop 12 mC58) (μ' := mUI μ5 a0 2 (mI μ5 a1 2)) h2 rfl ?_
  let μ6 : mM := mUI μ5 a0 2 (mI μ5 a1 2)
  refine mGo.steps 2 (c' := (58, List.drop 14 mC58, [.ref a0, .ref a1, .retAddr 0], [.ref a1, .ref a0], μ6)) rfl ?_
  refine gGet (is := List.drop 15 mC58) (v := .int (mI μ6 a1 3)) h1 rfl ?_
  replace hr := mBs hr
  refine gPut (is := List.drop 16 mC58) (μ' := mUI μ6 a0 3 (mI μ6 a1 3)) h2 rfl ?_
  let μ7 : mM := mUI μ6 a0 3 (mI μ6 a1 3)
  refine mGo.steps 2 (c' := (58, List.drop 18 mC58, [.ref a0, .ref a1, .retAddr 0], [.ref a1, .ref a0], μ7)) rfl ?_
  refine gGet (is := List.drop 19 mC58) (v := .int (mI μ7 a1 4)) h1 rfl ?_
  replace hr := mBs hr
  refine gPut (is := List.drop 20 mC58) (μ' := mUI μ7 a0 4 (mI μ7 a1 4)) h2 rfl ?_
  let μ8 : mM := mUI μ7 a0 4 (mI μ7 a1 4)
  refine mGo.steps 2 (c' := (58, List.drop 22 mC58, [.ref a0, .ref a1, .int 0], [], μ8)) rfl ?_
  obtain ⟨o24, h27, hr⟩ := mBi hr
  refine t58L22l a0 a1 1000 (0, μ8) o24 h27 ?_ 
  cases o24 with
  | inl x25 =>
    show ∀ (w0 : Value) (hw0 : mNotL w0 = true) (w1 : Value) (hw1 : mNotL w1 = true) (w2 : Value) (hw2 : mNotL w2 = true), mGo mG (58, List.drop 59 mC58, [w0, w1, w2], [], x25) r
    intro w0 hw0 w1 hw1 w2 hw2
    replace hr : (_) = some _ := hr
    obtain rfl := Option.some.inj hr
    rw [show r = _ from hC]
    exact gVret rfl
  | inr y26 =>
    obtain rfl := Option.some.inj hr
    exact hC

/-! 70: TunnelFabric$Router.copyFrom(LTunnelFabric$Router;)V -/
def s70 (μ : mM) (a0 : Nat) (a1 : Nat) : Option mM :=
  if (mS μ a1).1 = 4 then if (mS μ a0).1 = 4 then if (mI μ a1 0) = 0 ∨ (mI μ a1 0) = 1 then (some (mUI μ a0 0 (mI μ a1 0))).bind fun μ4 => (some (mUI μ4 a0 1 (mI μ4 a1 1))).bind fun μ5 => (some (mUI μ5 a0 2 (mI μ5 a1 2))).bind fun μ6 => (some (mUI μ6 a0 3 (mI μ6 a1 3))).bind fun μ7 => (some (mUI μ7 a0 4 (mI μ7 a1 4))).bind fun μ8 => (some (mUI μ8 a0 5 (mI μ8 a1 5))).bind fun μ9 => if (mS μ9 (mP μ9 a0 6)).1 = 2 then (s58 μ9 (mP μ9 a0 6) (mP μ9 a1 6)).bind fun q11 => some q11 else none else none else none else none
set_option maxRecDepth 20000 in
theorem t70 {μ : mM} {a0 : Nat} {a1 : Nat} {o : mM} (hr : s70 μ a0 a1 = some o) : mEv mG 70 [.ref a0, .ref a1] μ (none) (o) := by
  obtain ⟨r, hC⟩ : ∃ r : Option Value × mM, r = (none, o) := ⟨_, rfl⟩
  show mGo mG (70, List.drop 0 mC70, [.ref a0, .ref a1], [], μ) (none, o)
  rw [← hC]
  unfold s70 at hr
  refine mGo.steps 2 (c' := (70, List.drop 2 mC70, [.ref a0, .ref a1], [.ref a1, .ref a0], μ)) rfl ?_
  obtain ⟨h1, hr⟩ := mIf hr
  refine gGet (is := List.drop 3 mC70) (v := .int (mI μ a1 0)) h1 rfl ?_
  obtain ⟨h2, hr⟩ := mIf hr
  obtain ⟨h3, hr⟩ := mIf hr
  replace hr := mBs hr
  refine gPut (is := List.drop 4 mC70) (μ' := mUI μ a0 0 (mI μ a1 0)) h2 (gZ h3) ?_
  let μ4 : mM := mUI μ a0 0 (mI μ a1 0)
  refine mGo.steps 2 (c' := (70, List.drop 6 mC70, [.ref a0, .ref a1], [.ref a1, .ref a0], μ4)) rfl ?_
  refine gGet (is := List.drop 7 mC70) (v := .int (mI μ4 a1 1)) h1 rfl ?_
  replace hr := mBs hr
  refine gPut (is := List.drop 8 mC70) (μ' := mUI μ4 a0 1 (mI μ4 a1 1)) h2 rfl ?_
  let μ5 : mM := mUI μ4 a0 1 (mI μ4 a1 1)
  refine mGo.steps 2 (c' := (70, List.drop 10 mC70, [.ref a0, .ref a1], [.ref a1, .ref a0], μ5)) rfl ?_
  refine gGet (is := List.drop 11 mC70) (v := .int (mI μ5 a1 2)) h1 rfl ?_
  replace hr := mBs hr
  refine gPut (is := List.drop 12 mC70) (μ' := mUI μ5 a0 2 (mI μ5 a1 2)) h2 rfl ?_
  let μ6 : mM := mUI μ5 a0 2 (mI μ5 a1 2)
  refine mGo.steps 2 (c' := (70, List.drop 14 mC70, [.ref a0, .ref a1], [.ref a1, .ref a0], μ6)) rfl ?_
  refine gGet (is := List.drop 15 mC70) (v := .int (mI μ6 a1 3)) h1 rfl ?_
  replace hr := mBs hr
  refine gPut (is := List.drop 16 mC70) (μ' := mUI μ6 a0 3 (mI μ6 a1 3)) h2 rfl ?_
  let μ7 : mM := mUI μ6 a0 3 (mI μ6 a1 3)
  refine mGo.steps 2 (c' := (70, List.drop 18 mC70, [.ref a0, .ref a1], [.ref a1, .ref a0], μ7)) rfl ?_
  refine gGet (is := List.drop 19 mC70) (v := .int (mI μ7 a1 4)) h1 rfl ?_
  replace hr := mBs hr
  refine gPut (is := List.drop 20 mC70) (μ' := mUI μ7 a0 4 (mI μ7 a1 4)) h2 rfl ?_
  let μ8 : mM := mUI μ7 a0 4 (mI μ7 a1 4)
  refine mGo.steps 2 (c' := (70, List.drop 22 mC70, [.ref a0, .ref a1], [.ref a1, .ref a0], μ8)) rfl ?_
  refine gGet (is := List.drop 23 mC70) (v := .int (mI μ8 a1 5)) h1 rfl ?_
  replace hr := mBs hr
  refine gPut (is := List.drop 24 mC70) (μ' := mUI μ8 a0 5 (mI μ8 a1 5)) h2 rfl ?_
  let μ9 : mM := mUI μ8 a0 5 (mI μ8 a1 5)
  refine mGo.steps 1 (c' := (70, List.drop 25 mC70, [.ref a0, .ref a1], [.ref a0], μ9)) rfl ?_
  refine gGet (is := List.drop 26 mC70) (v := .ref (mP μ9 a0 6)) h2 rfl ?_
  refine mGo.steps 1 (c' := (70, List.drop 27 mC70, [.ref a0, .ref a1], [.ref a1, .ref (mP μ9 a0 6)], μ9)) rfl ?_
  refine gGet (is := List.drop 28 mC70) (v := .ref (mP μ9 a1 6)) h1 rfl ?_
  obtain ⟨h10, hr⟩ := mIf hr
  obtain ⟨q11, h12, hr⟩ := mBi hr
  refine gCall (z := 58) (n := 1) (f := 0) (kind := 1) (a := (mP μ9 a0 6)) (As := [.ref (mP μ9 a1 6)]) (y := 70) (is := List.drop 29 mC70) (L := [.ref a0, .ref a1]) (rest := []) (μ := μ9) rfl (by decide) (by decide) ⟨rfl, rfl⟩ rfl h10 (Nat.le_of_ble_eq_true rfl) (Nat.le_of_ble_eq_true rfl) (t58 h12) ?_
  obtain rfl := Option.some.inj hr
  rw [show r = _ from hC]
  exact gVret rfl

/-! 95: TunnelFabric$Way.copyFrom(LTunnelFabric$Way;)V -/
def s95L18 (p0 : Nat) (p1 : Nat) (s : Int32 × mM) : Option ((Int32 × mM) ⊕ ((mM) ⊕ mM)) :=
  if 4 ≤ s.1 then (some (.inr (.inl s.2))) else (if (mS s.2 p0).1 = 7 then if (mS s.2 p1).1 = 7 then if (mS s.2 (mP s.2 p1 4)).1 = 10 ∧ mInb s.1 (mS s.2 (mP s.2 p1 4)).2 then if (mS s.2 (mP s.2 p0 4)).1 = 10 ∧ mInb s.1 (mS s.2 (mP s.2 p0 4)).2 then (some (mUI s.2 (mP s.2 p0 4) (Int32.toNatClampNeg s.1) (mI s.2 (mP s.2 p1 4) (Int32.toNatClampNeg s.1)))).bind fun μ12 => if (mS μ12 (mP μ12 p1 5)).1 = 10 ∧ mInb s.1 (mS μ12 (mP μ12 p1 5)).2 then if (mS μ12 (mP μ12 p0 5)).1 = 10 ∧ mInb s.1 (mS μ12 (mP μ12 p0 5)).2 then (some (mUI μ12 (mP μ12 p0 5) (Int32.toNatClampNeg s.1) (mI μ12 (mP μ12 p1 5) (Int32.toNatClampNeg s.1)))).bind fun μ15 => if (mS μ15 (mP μ15 p1 6)).1 = 10 ∧ mInb s.1 (mS μ15 (mP μ15 p1 6)).2 then if (mS μ15 (mP μ15 p0 6)).1 = 10 ∧ mInb s.1 (mS μ15 (mP μ15 p0 6)).2 then (some (mUI μ15 (mP μ15 p0 6) (Int32.toNatClampNeg s.1) (mI μ15 (mP μ15 p1 6) (Int32.toNatClampNeg s.1)))).bind fun μ18 => if (mS μ18 (mP μ18 p1 7)).1 = 10 ∧ mInb s.1 (mS μ18 (mP μ18 p1 7)).2 then if (mS μ18 (mP μ18 p0 7)).1 = 10 ∧ mInb s.1 (mS μ18 (mP μ18 p0 7)).2 then (some (mUI μ18 (mP μ18 p0 7) (Int32.toNatClampNeg s.1) (mI μ18 (mP μ18 p1 7) (Int32.toNatClampNeg s.1)))).bind fun μ21 => if (mS μ21 (mP μ21 p1 8)).1 = 10 ∧ mInb s.1 (mS μ21 (mP μ21 p1 8)).2 then if (mS μ21 (mP μ21 p0 8)).1 = 10 ∧ mInb s.1 (mS μ21 (mP μ21 p0 8)).2 then (some (mUI μ21 (mP μ21 p0 8) (Int32.toNatClampNeg s.1) (mI μ21 (mP μ21 p1 8) (Int32.toNatClampNeg s.1)))).bind fun μ24 => some (.inl (s.1 + 1, μ24)) else none else none else none else none else none else none else none else none else none else none else none else none)
set_option maxRecDepth 20000 in
theorem t95L18 (p0 : Nat) (p1 : Nat) {r : Option Value × mM} (s : Int32 × mM) (o : ((Int32 × mM) ⊕ ((mM) ⊕ mM))) (hr : s95L18 p0 p1 s = some o) (hC : Sum.elim (fun s' : Int32 × mM => mGo mG (95, List.drop 18 mC95, [.ref p0, .ref p1, .int s'.1], [], s'.2) r) (Sum.elim (fun x : mM => ∀ (w0 : Value) (hw0 : mNotL w0 = true) (w1 : Value) (hw1 : mNotL w1 = true) (w2 : Value) (hw2 : mNotL w2 = true), mGo mG (95, List.drop 63 mC95, [w0, w1, w2], [], x) r) (fun y : mM => r = (none, y))) o) : mGo mG (95, List.drop 18 mC95, [.ref p0, .ref p1, .int s.1], [], s.2) r := by
  unfold s95L18 at hr
  refine mGo.steps 2 (c' := (95, List.drop 20 mC95, [.ref p0, .ref p1, .int s.1], [.int 4, .int s.1], s.2)) rfl ?_
  rcases mIte hr with ⟨h25, hr⟩ | ⟨h25, hr⟩
  · refine gBrT (p := 4 ≤ s.1) (y := 95) (is := List.drop 21 mC95) (L := [.ref p0, .ref p1, .int s.1]) (st := []) (μ := s.2) (t := 105) rfl h25 ?_
    obtain rfl := Option.some.inj hr
    exact hC (.ref p0) rfl (.ref p1) rfl (.int s.1) rfl
  · refine gBrF (p := 4 ≤ s.1) (y := 95) (is := List.drop 21 mC95) (L := [.ref p0, .ref p1, .int s.1]) (st := []) (μ := s.2) (t := 105) rfl h25 ?_
    refine mGo.steps 1 (c' := (95, List.drop 22 mC95, [.ref p0, .ref p1, .int s.1], [.ref p0], s.2)) rfl ?_
    obtain ⟨h8, hr⟩ := mIf hr
    refine gGet (is := List.drop 23 mC95) (v := .ref (mP s.2 p0 4)) h8 rfl ?_
    refine mGo.steps 2 (c' := (95, List.drop 25 mC95, [.ref p0, .ref p1, .int s.1], [.ref p1, .int s.1, .ref (mP s.2 p0 4)], s.2)) rfl ?_
    obtain ⟨h9, hr⟩ := mIf hr
    refine gGet (is := List.drop 26 mC95) (v := .ref (mP s.2 p1 4)) h9 rfl ?_
    refine mGo.steps 1 (c' := (95, List.drop 27 mC95, [.ref p0, .ref p1, .int s.1], [.int s.1, .ref (mP s.2 p1 4), .int s.1, .ref (mP s.2 p0 4)], s.2)) rfl ?_
    obtain ⟨h10, hr⟩ := mIf hr
    refine gIald (is := List.drop 28 mC95) h10 ?_
    obtain ⟨h11, hr⟩ := mIf hr
    replace hr := mBs hr
    refine gIast (is := List.drop 29 mC95) h11 ?_
    let μ12 : mM := mUI s.2 (mP s.2 p0 4) (Int32.toNatClampNeg s.1) (mI s.2 (mP s.2 p1 4) (Int32.toNatClampNeg s.1))
    refine mGo.steps 1 (c' := (95, List.drop 30 mC95, [.ref p0, .ref p1, .int s.1], [.ref p0], μ12)) rfl ?_
    refine gGet (is := List.drop 31 mC95) (v := .ref (mP μ12 p0 5)) h8 rfl ?_
    refine mGo.steps 2 (c' := (95, List.drop 33 mC95, [.ref p0, .ref p1, .int s.1], [.ref p1, .int s.1, .ref (mP μ12 p0 5)], μ12)) rfl ?_
    refine gGet (is := List.drop 34 mC95) (v := .ref (mP μ12 p1 5)) h9 rfl ?_
    refine mGo.steps 1 (c' := (95, List.drop 35 mC95, [.ref p0, .ref p1, .int s.1], [.int s.1, .ref (mP μ12 p1 5), .int s.1, .ref (mP μ12 p0 5)], μ12)) rfl ?_
    obtain ⟨h13, hr⟩ := mIf hr
    refine gIald (is := List.drop 36 mC95) h13 ?_
    obtain ⟨h14, hr⟩ := mIf hr
    replace hr := mBs hr
    refine gIast (is := List.drop 37 mC95) h14 ?_
    let μ15 : mM := mUI μ12 (mP μ12 p0 5) (Int32.toNatClampNeg s.1) (mI μ12 (mP μ12 p1 5) (Int32.toNatClampNeg s.1))
    refine mGo.steps 1 (c' := (95, List.drop 38 mC95, [.ref p0, .ref p1, .int s.1], [.ref p0], μ15)) rfl ?_
    refine gGet (is := List.drop 39 mC95) (v := .ref (mP μ15 p0 6)) h8 rfl ?_
    refine mGo.steps 2 (c' := (95, List.drop 41 mC95, [.ref p0, .ref p1, .int s.1], [.ref p1, .int s.1, .ref (mP μ15 p0 6)], μ15)) rfl ?_
    refine gGet (is := List.drop 42 mC95) (v := .ref (mP μ15 p1 6)) h9 rfl ?_
    refine mGo.steps 1 (c' := (95, List.drop 43 mC95, [.ref p0, .ref p1, .int s.1], [.int s.1, .ref (mP μ15 p1 6), .int s.1, .ref (mP μ15 p0 6)], μ15)) rfl ?_
    obtain ⟨h16, hr⟩ := mIf hr
    refine gIald (is := List.drop 44 mC95) h16 ?_
    obtain ⟨h17, hr⟩ := mIf hr
    replace hr := mBs hr
    refine gIast (is := List.drop 45 mC95) h17 ?_
    let μ18 : mM := mUI μ15 (mP μ15 p0 6) (Int32.toNatClampNeg s.1) (mI μ15 (mP μ15 p1 6) (Int32.toNatClampNeg s.1))
    refine mGo.steps 1 (c' := (95, List.drop 46 mC95, [.ref p0, .ref p1, .int s.1], [.ref p0], μ18)) rfl ?_
    refine gGet (is := List.drop 47 mC95) (v := .ref (mP μ18 p0 7)) h8 rfl ?_
    refine mGo.steps 2 (c' := (95, List.drop 49 mC95, [.ref p0, .ref p1, .int s.1], [.ref p1, .int s.1, .ref (mP μ18 p0 7)], μ18)) rfl ?_
    refine gGet (is := List.drop 50 mC95) (v := .ref (mP μ18 p1 7)) h9 rfl ?_
    refine mGo.steps 1 (c' := (95, List.drop 51 mC95, [.ref p0, .ref p1, .int s.1], [.int s.1, .ref (mP μ18 p1 7), .int s.1, .ref (mP μ18 p0 7)], μ18)) rfl ?_
    obtain ⟨h19, hr⟩ := mIf hr
    refine gIald (is := List.drop 52 mC95) h19 ?_
    obtain ⟨h20, hr⟩ := mIf hr
    replace hr := mBs hr
    refine gIast (is := List.drop 53 mC95) h20 ?_
    let μ21 : mM := mUI μ18 (mP μ18 p0 7) (Int32.toNatClampNeg s.1) (mI μ18 (mP μ18 p1 7) (Int32.toNatClampNeg s.1))
    refine mGo.steps 1 (c' := (95, List.drop 54 mC95, [.ref p0, .ref p1, .int s.1], [.ref p0], μ21)) rfl ?_
    refine gGet (is := List.drop 55 mC95) (v := .ref (mP μ21 p0 8)) h8 rfl ?_
    refine mGo.steps 2 (c' := (95, List.drop 57 mC95, [.ref p0, .ref p1, .int s.1], [.ref p1, .int s.1, .ref (mP μ21 p0 8)], μ21)) rfl ?_
    refine gGet (is := List.drop 58 mC95) (v := .ref (mP μ21 p1 8)) h9 rfl ?_
    refine mGo.steps 1 (c' := (95, List.drop 59 mC95, [.ref p0, .ref p1, .int s.1], [.int s.1, .ref (mP μ21 p1 8), .int s.1, .ref (mP μ21 p0 8)], μ21)) rfl ?_
    obtain ⟨h22, hr⟩ := mIf hr
    refine gIald (is := List.drop 60 mC95) h22 ?_
    obtain ⟨h23, hr⟩ := mIf hr
    replace hr := mBs hr
    refine gIast (is := List.drop 61 mC95) h23 ?_
    let μ24 : mM := mUI μ21 (mP μ21 p0 8) (Int32.toNatClampNeg s.1) (mI μ21 (mP μ21 p1 8) (Int32.toNatClampNeg s.1))
    refine mGo.steps 2 (c' := (95, List.drop 18 mC95, [.ref p0, .ref p1, .int (s.1 + 1)], [], μ24)) rfl ?_
    obtain rfl := Option.some.inj hr
    exact hC
theorem t95L18l (p0 : Nat) (p1 : Nat) {r : Option Value × mM} (n : Nat) (s : Int32 × mM) (o : (mM) ⊕ mM) (hr : mLoop (s95L18 p0 p1) n s = some o) (hC : Sum.elim (fun x : mM => ∀ (w0 : Value) (hw0 : mNotL w0 = true) (w1 : Value) (hw1 : mNotL w1 = true) (w2 : Value) (hw2 : mNotL w2 = true), mGo mG (95, List.drop 63 mC95, [w0, w1, w2], [], x) r) (fun y : mM => r = (none, y)) o) : mGo mG (95, List.drop 18 mC95, [.ref p0, .ref p1, .int s.1], [], s.2) r :=
  mLoop_go (Hd := (fun s' : Int32 × mM => mGo mG (95, List.drop 18 mC95, [.ref p0, .ref p1, .int s'.1], [], s'.2) r)) (fun s o hb hC => t95L18 p0 p1 s o hb hC) n s o hr hC
def s95 (μ : mM) (a0 : Nat) (a1 : Nat) : Option mM :=
  if (mS μ a1).1 = 7 then if (mS μ a0).1 = 7 then if (mI μ a1 0) = 0 ∨ (mI μ a1 0) = 1 then (some (mUI μ a0 0 (mI μ a1 0))).bind fun μ4 => (some (mUI μ4 a0 1 (mI μ4 a1 1))).bind fun μ5 => (some (mUI μ5 a0 2 (mI μ5 a1 2))).bind fun μ6 => (some (mUI μ6 a0 3 (mI μ6 a1 3))).bind fun μ7 => (mLoop (s95L18 a0 a1) 1000 (0, μ7)).bind fun o26 => Sum.elim (fun x27 => some x27) (fun y28 => some y28) o26 else none else none else none
set_option maxRecDepth 20000 in
theorem t95 {μ : mM} {a0 : Nat} {a1 : Nat} {o : mM} (hr : s95 μ a0 a1 = some o) : mEv mG 95 [.ref a0, .ref a1] μ (none) (o) := by
  obtain ⟨r, hC⟩ : ∃ r : Option Value × mM, r = (none, o) := ⟨_, rfl⟩
  show mGo mG (95, List.drop 0 mC95, [.ref a0, .ref a1, .retAddr 0], [], μ) (none, o)
  rw [← hC]
  unfold s95 at hr
  refine mGo.steps 2 (c' := (95, List.drop 2 mC95, [.ref a0, .ref a1, .retAddr 0], [.ref a1, .ref a0], μ)) rfl ?_
  obtain ⟨h1, hr⟩ := mIf hr
  refine gGet (is := List.drop 3 mC95) (v := .int (mI μ a1 0)) h1 rfl ?_
  obtain ⟨h2, hr⟩ := mIf hr
  obtain ⟨h3, hr⟩ := mIf hr
  replace hr := mBs hr
  refine gPut (is := List.drop 4 mC95) (μ' := mUI μ a0 0 (mI μ a1 0)) h2 (gZ h3) ?_
  let μ4 : mM := mUI μ a0 0 (mI μ a1 0)
  refine mGo.steps 2 (c' := (95, List.drop 6 mC95, [.ref a0, .ref a1, .retAddr 0], [.ref a1, .ref a0], μ4)) rfl ?_
  refine gGet (is := List.drop 7 mC95) (v := .int (mI μ4 a1 1)) h1 rfl ?_
  replace hr := mBs hr
  refine gPut (is := List.drop 8 mC95) (μ' := mUI μ4 a0 1 (mI μ4 a1 1)) h2 rfl ?_
  let μ5 : mM := mUI μ4 a0 1 (mI μ4 a1 1)
  refine mGo.steps 2 (c' := (95, List.drop 10 mC95, [.ref a0, .ref a1, .retAddr 0], [.ref a1, .ref a0], μ5)) rfl ?_
  refine gGet (is := List.drop 11 mC95) (v := .int (mI μ5 a1 2)) h1 rfl ?_
  replace hr := mBs hr
  refine gPut (is := List.drop 12 mC95) (μ' := mUI μ5 a0 2 (mI μ5 a1 2)) h2 rfl ?_
  let μ6 : mM := mUI μ5 a0 2 (mI μ5 a1 2)
  refine mGo.steps 2 (c' := (95, List.drop 14 mC95, [.ref a0, .ref a1, .retAddr 0], [.ref a1, .ref a0], μ6)) rfl ?_
  refine gGet (is := List.drop 15 mC95) (v := .int (mI μ6 a1 3)) h1 rfl ?_
  replace hr := mBs hr
  refine gPut (is := List.drop 16 mC95) (μ' := mUI μ6 a0 3 (mI μ6 a1 3)) h2 rfl ?_
  let μ7 : mM := mUI μ6 a0 3 (mI μ6 a1 3)
  refine mGo.steps 2 (c' := (95, List.drop 18 mC95, [.ref a0, .ref a1, .int 0], [], μ7)) rfl ?_
  obtain ⟨o26, h29, hr⟩ := mBi hr
  refine t95L18l a0 a1 1000 (0, μ7) o26 h29 ?_ 
  cases o26 with
  | inl x27 =>
    show ∀ (w0 : Value) (hw0 : mNotL w0 = true) (w1 : Value) (hw1 : mNotL w1 = true) (w2 : Value) (hw2 : mNotL w2 = true), mGo mG (95, List.drop 63 mC95, [w0, w1, w2], [], x27) r
    intro w0 hw0 w1 hw1 w2 hw2
    replace hr : (_) = some _ := hr
    obtain rfl := Option.some.inj hr
    rw [show r = _ from hC]
    exact gVret rfl
  | inr y28 =>
    obtain rfl := Option.some.inj hr
    exact hC

/-! 85: TunnelFabric$Tunnel.copyFrom(LTunnelFabric$Tunnel;)V -/
def s85 (μ : mM) (a0 : Nat) (a1 : Nat) : Option mM :=
  if (mS μ a1).1 = 6 then if (mS μ a0).1 = 6 then if (mI μ a1 0) = 0 ∨ (mI μ a1 0) = 1 then (some (mUI μ a0 0 (mI μ a1 0))).bind fun μ4 => (some (mUI μ4 a0 1 (mI μ4 a1 1))).bind fun μ5 => (some (mUI μ5 a0 2 (mI μ5 a1 2))).bind fun μ6 => (some (mUI μ6 a0 3 (mI μ6 a1 3))).bind fun μ7 => (some (mUI μ7 a0 4 (mI μ7 a1 4))).bind fun μ8 => (some (mUI μ8 a0 5 (mI μ8 a1 5))).bind fun μ9 => if (mS μ9 (mP μ9 a0 6)).1 = 7 then (s95 μ9 (mP μ9 a0 6) (mP μ9 a1 6)).bind fun q11 => if (mS q11 a0).1 = 6 then if (mS q11 a1).1 = 6 then if (mS q11 (mP q11 a0 7)).1 = 7 then (s95 q11 (mP q11 a0 7) (mP q11 a1 7)).bind fun q16 => some q16 else none else none else none else none else none else none else none
set_option maxRecDepth 20000 in
theorem t85 {μ : mM} {a0 : Nat} {a1 : Nat} {o : mM} (hr : s85 μ a0 a1 = some o) : mEv mG 85 [.ref a0, .ref a1] μ (none) (o) := by
  obtain ⟨r, hC⟩ : ∃ r : Option Value × mM, r = (none, o) := ⟨_, rfl⟩
  show mGo mG (85, List.drop 0 mC85, [.ref a0, .ref a1], [], μ) (none, o)
  rw [← hC]
  unfold s85 at hr
  refine mGo.steps 2 (c' := (85, List.drop 2 mC85, [.ref a0, .ref a1], [.ref a1, .ref a0], μ)) rfl ?_
  obtain ⟨h1, hr⟩ := mIf hr
  refine gGet (is := List.drop 3 mC85) (v := .int (mI μ a1 0)) h1 rfl ?_
  obtain ⟨h2, hr⟩ := mIf hr
  obtain ⟨h3, hr⟩ := mIf hr
  replace hr := mBs hr
  refine gPut (is := List.drop 4 mC85) (μ' := mUI μ a0 0 (mI μ a1 0)) h2 (gZ h3) ?_
  let μ4 : mM := mUI μ a0 0 (mI μ a1 0)
  refine mGo.steps 2 (c' := (85, List.drop 6 mC85, [.ref a0, .ref a1], [.ref a1, .ref a0], μ4)) rfl ?_
  refine gGet (is := List.drop 7 mC85) (v := .int (mI μ4 a1 1)) h1 rfl ?_
  replace hr := mBs hr
  refine gPut (is := List.drop 8 mC85) (μ' := mUI μ4 a0 1 (mI μ4 a1 1)) h2 rfl ?_
  let μ5 : mM := mUI μ4 a0 1 (mI μ4 a1 1)
  refine mGo.steps 2 (c' := (85, List.drop 10 mC85, [.ref a0, .ref a1], [.ref a1, .ref a0], μ5)) rfl ?_
  refine gGet (is := List.drop 11 mC85) (v := .int (mI μ5 a1 2)) h1 rfl ?_
  replace hr := mBs hr
  refine gPut (is := List.drop 12 mC85) (μ' := mUI μ5 a0 2 (mI μ5 a1 2)) h2 rfl ?_
  let μ6 : mM := mUI μ5 a0 2 (mI μ5 a1 2)
  refine mGo.steps 2 (c' := (85, List.drop 14 mC85, [.ref a0, .ref a1], [.ref a1, .ref a0], μ6)) rfl ?_
  refine gGet (is := List.drop 15 mC85) (v := .int (mI μ6 a1 3)) h1 rfl ?_
  replace hr := mBs hr
  refine gPut (is := List.drop 16 mC85) (μ' := mUI μ6 a0 3 (mI μ6 a1 3)) h2 rfl ?_
  let μ7 : mM := mUI μ6 a0 3 (mI μ6 a1 3)
  refine mGo.steps 2 (c' := (85, List.drop 18 mC85, [.ref a0, .ref a1], [.ref a1, .ref a0], μ7)) rfl ?_
  refine gGet (is := List.drop 19 mC85) (v := .int (mI μ7 a1 4)) h1 rfl ?_
  replace hr := mBs hr
  refine gPut (is := List.drop 20 mC85) (μ' := mUI μ7 a0 4 (mI μ7 a1 4)) h2 rfl ?_
  let μ8 : mM := mUI μ7 a0 4 (mI μ7 a1 4)
  refine mGo.steps 2 (c' := (85, List.drop 22 mC85, [.ref a0, .ref a1], [.ref a1, .ref a0], μ8)) rfl ?_
  refine gGet (is := List.drop 23 mC85) (v := .int (mI μ8 a1 5)) h1 rfl ?_
  replace hr := mBs hr
  refine gPut (is := List.drop 24 mC85) (μ' := mUI μ8 a0 5 (mI μ8 a1 5)) h2 rfl ?_
  let μ9 : mM := mUI μ8 a0 5 (mI μ8 a1 5)
  refine mGo.steps 1 (c' := (85, List.drop 25 mC85, [.ref a0, .ref a1], [.ref a0], μ9)) rfl ?_
  refine gGet (is := List.drop 26 mC85) (v := .ref (mP μ9 a0 6)) h2 rfl ?_
  refine mGo.steps 1 (c' := (85, List.drop 27 mC85, [.ref a0, .ref a1], [.ref a1, .ref (mP μ9 a0 6)], μ9)) rfl ?_
  refine gGet (is := List.drop 28 mC85) (v := .ref (mP μ9 a1 6)) h1 rfl ?_
  obtain ⟨h10, hr⟩ := mIf hr
  obtain ⟨q11, h12, hr⟩ := mBi hr
  refine gCall (z := 95) (n := 1) (f := 0) (kind := 1) (a := (mP μ9 a0 6)) (As := [.ref (mP μ9 a1 6)]) (y := 85) (is := List.drop 29 mC85) (L := [.ref a0, .ref a1]) (rest := []) (μ := μ9) rfl (by decide) (by decide) ⟨rfl, rfl⟩ rfl h10 (Nat.le_of_ble_eq_true rfl) (Nat.le_of_ble_eq_true rfl) (t95 h12) ?_
  refine mGo.steps 1 (c' := (85, List.drop 30 mC85, [.ref a0, .ref a1], [.ref a0], q11)) rfl ?_
  obtain ⟨h13, hr⟩ := mIf hr
  refine gGet (is := List.drop 31 mC85) (v := .ref (mP q11 a0 7)) h13 rfl ?_
  refine mGo.steps 1 (c' := (85, List.drop 32 mC85, [.ref a0, .ref a1], [.ref a1, .ref (mP q11 a0 7)], q11)) rfl ?_
  obtain ⟨h14, hr⟩ := mIf hr
  refine gGet (is := List.drop 33 mC85) (v := .ref (mP q11 a1 7)) h14 rfl ?_
  obtain ⟨h15, hr⟩ := mIf hr
  obtain ⟨q16, h17, hr⟩ := mBi hr
  refine gCall (z := 95) (n := 1) (f := 0) (kind := 1) (a := (mP q11 a0 7)) (As := [.ref (mP q11 a1 7)]) (y := 85) (is := List.drop 34 mC85) (L := [.ref a0, .ref a1]) (rest := []) (μ := q11) rfl (by decide) (by decide) ⟨rfl, rfl⟩ rfl h15 (Nat.le_of_ble_eq_true rfl) (Nat.le_of_ble_eq_true rfl) (t95 h17) ?_
  obtain rfl := Option.some.inj hr
  rw [show r = _ from hC]
  exact gVret rfl

/-! 13: TunnelFabric$Fabric.copyFrom(LTunnelFabric$Fabric;)V -/
def s13L2 (p0 : Nat) (p1 : Nat) (s : Int32 × mM) : Option ((Int32 × mM) ⊕ ((mM) ⊕ mM)) :=
  if 8 ≤ s.1 then (some (.inr (.inl s.2))) else (if (mS s.2 p0).1 = 1 then if (mS s.2 (mP s.2 p0 0)).1 = 20 + 4 ∧ mInb s.1 (mS s.2 (mP s.2 p0 0)).2 then if (mS s.2 p1).1 = 1 then if (mS s.2 (mP s.2 p1 0)).1 = 20 + 4 ∧ mInb s.1 (mS s.2 (mP s.2 p1 0)).2 then if (mS s.2 (mP s.2 (mP s.2 p0 0) (Int32.toNatClampNeg s.1))).1 = 4 then (s70 s.2 (mP s.2 (mP s.2 p0 0) (Int32.toNatClampNeg s.1)) (mP s.2 (mP s.2 p1 0) (Int32.toNatClampNeg s.1))).bind fun q6 => some (.inl (s.1 + 1, q6)) else none else none else none else none else none)
set_option maxRecDepth 20000 in
theorem t13L2 (p0 : Nat) (p1 : Nat) {r : Option Value × mM} (s : Int32 × mM) (o : ((Int32 × mM) ⊕ ((mM) ⊕ mM))) (hr : s13L2 p0 p1 s = some o) (hC : Sum.elim (fun s' : Int32 × mM => mGo mG (13, List.drop 2 mC13, [.ref p0, .ref p1, .int s'.1], [], s'.2) r) (Sum.elim (fun x : mM => ∀ (w2 : Value) (hw2 : mNotL w2 = true), mGo mG (13, List.drop 16 mC13, [.ref p0, .ref p1, w2], [], x) r) (fun y : mM => r = (none, y))) o) : mGo mG (13, List.drop 2 mC13, [.ref p0, .ref p1, .int s.1], [], s.2) r := by
  unfold s13L2 at hr
  refine mGo.steps 2 (c' := (13, List.drop 4 mC13, [.ref p0, .ref p1, .int s.1], [.int 8, .int s.1], s.2)) rfl ?_
  rcases mIte hr with ⟨h8, hr⟩ | ⟨h8, hr⟩
  · refine gBrT (p := 8 ≤ s.1) (y := 13) (is := List.drop 5 mC13) (L := [.ref p0, .ref p1, .int s.1]) (st := []) (μ := s.2) (t := 29) rfl h8 ?_
    obtain rfl := Option.some.inj hr
    exact hC (.int s.1) rfl
  · refine gBrF (p := 8 ≤ s.1) (y := 13) (is := List.drop 5 mC13) (L := [.ref p0, .ref p1, .int s.1]) (st := []) (μ := s.2) (t := 29) rfl h8 ?_
    refine mGo.steps 1 (c' := (13, List.drop 6 mC13, [.ref p0, .ref p1, .int s.1], [.ref p0], s.2)) rfl ?_
    obtain ⟨h1, hr⟩ := mIf hr
    refine gGet (is := List.drop 7 mC13) (v := .ref (mP s.2 p0 0)) h1 rfl ?_
    refine mGo.steps 1 (c' := (13, List.drop 8 mC13, [.ref p0, .ref p1, .int s.1], [.int s.1, .ref (mP s.2 p0 0)], s.2)) rfl ?_
    obtain ⟨h2, hr⟩ := mIf hr
    refine gAald (is := List.drop 9 mC13) h2 ?_
    refine mGo.steps 1 (c' := (13, List.drop 10 mC13, [.ref p0, .ref p1, .int s.1], [.ref p1, .ref (mP s.2 (mP s.2 p0 0) (Int32.toNatClampNeg s.1))], s.2)) rfl ?_
    obtain ⟨h3, hr⟩ := mIf hr
    refine gGet (is := List.drop 11 mC13) (v := .ref (mP s.2 p1 0)) h3 rfl ?_
    refine mGo.steps 1 (c' := (13, List.drop 12 mC13, [.ref p0, .ref p1, .int s.1], [.int s.1, .ref (mP s.2 p1 0), .ref (mP s.2 (mP s.2 p0 0) (Int32.toNatClampNeg s.1))], s.2)) rfl ?_
    obtain ⟨h4, hr⟩ := mIf hr
    refine gAald (is := List.drop 13 mC13) h4 ?_
    obtain ⟨h5, hr⟩ := mIf hr
    obtain ⟨q6, h7, hr⟩ := mBi hr
    refine gCall (z := 70) (n := 1) (f := 0) (kind := 1) (a := (mP s.2 (mP s.2 p0 0) (Int32.toNatClampNeg s.1))) (As := [.ref (mP s.2 (mP s.2 p1 0) (Int32.toNatClampNeg s.1))]) (y := 13) (is := List.drop 14 mC13) (L := [.ref p0, .ref p1, .int s.1]) (rest := []) (μ := s.2) rfl (by decide) (by decide) ⟨rfl, rfl⟩ rfl h5 (Nat.le_of_ble_eq_true rfl) (Nat.le_of_ble_eq_true rfl) (t70 h7) ?_
    refine mGo.steps 2 (c' := (13, List.drop 2 mC13, [.ref p0, .ref p1, .int (s.1 + 1)], [], q6)) rfl ?_
    obtain rfl := Option.some.inj hr
    exact hC
theorem t13L2l (p0 : Nat) (p1 : Nat) {r : Option Value × mM} (n : Nat) (s : Int32 × mM) (o : (mM) ⊕ mM) (hr : mLoop (s13L2 p0 p1) n s = some o) (hC : Sum.elim (fun x : mM => ∀ (w2 : Value) (hw2 : mNotL w2 = true), mGo mG (13, List.drop 16 mC13, [.ref p0, .ref p1, w2], [], x) r) (fun y : mM => r = (none, y)) o) : mGo mG (13, List.drop 2 mC13, [.ref p0, .ref p1, .int s.1], [], s.2) r :=
  mLoop_go (Hd := (fun s' : Int32 × mM => mGo mG (13, List.drop 2 mC13, [.ref p0, .ref p1, .int s'.1], [], s'.2) r)) (fun s o hb hC => t13L2 p0 p1 s o hb hC) n s o hr hC
def s13L18 (p0 : Nat) (p1 : Nat) (s : Int32 × mM) : Option ((Int32 × mM) ⊕ ((mM) ⊕ mM)) :=
  if 10 ≤ s.1 then (some (.inr (.inl s.2))) else (if (mS s.2 p0).1 = 1 then if (mS s.2 (mP s.2 p0 1)).1 = 20 + 6 ∧ mInb s.1 (mS s.2 (mP s.2 p0 1)).2 then if (mS s.2 p1).1 = 1 then if (mS s.2 (mP s.2 p1 1)).1 = 20 + 6 ∧ mInb s.1 (mS s.2 (mP s.2 p1 1)).2 then if (mS s.2 (mP s.2 (mP s.2 p0 1) (Int32.toNatClampNeg s.1))).1 = 6 then (s85 s.2 (mP s.2 (mP s.2 p0 1) (Int32.toNatClampNeg s.1)) (mP s.2 (mP s.2 p1 1) (Int32.toNatClampNeg s.1))).bind fun q18 => some (.inl (s.1 + 1, q18)) else none else none else none else none else none)
set_option maxRecDepth 20000 in
theorem t13L18 (p0 : Nat) (p1 : Nat) {r : Option Value × mM} (s : Int32 × mM) (o : ((Int32 × mM) ⊕ ((mM) ⊕ mM))) (hr : s13L18 p0 p1 s = some o) (hC : Sum.elim (fun s' : Int32 × mM => mGo mG (13, List.drop 18 mC13, [.ref p0, .ref p1, .int s'.1], [], s'.2) r) (Sum.elim (fun x : mM => ∀ (w2 : Value) (hw2 : mNotL w2 = true), mGo mG (13, List.drop 32 mC13, [.ref p0, .ref p1, w2], [], x) r) (fun y : mM => r = (none, y))) o) : mGo mG (13, List.drop 18 mC13, [.ref p0, .ref p1, .int s.1], [], s.2) r := by
  unfold s13L18 at hr
  refine mGo.steps 2 (c' := (13, List.drop 20 mC13, [.ref p0, .ref p1, .int s.1], [.int 10, .int s.1], s.2)) rfl ?_
  rcases mIte hr with ⟨h20, hr⟩ | ⟨h20, hr⟩
  · refine gBrT (p := 10 ≤ s.1) (y := 13) (is := List.drop 21 mC13) (L := [.ref p0, .ref p1, .int s.1]) (st := []) (μ := s.2) (t := 58) rfl h20 ?_
    obtain rfl := Option.some.inj hr
    exact hC (.int s.1) rfl
  · refine gBrF (p := 10 ≤ s.1) (y := 13) (is := List.drop 21 mC13) (L := [.ref p0, .ref p1, .int s.1]) (st := []) (μ := s.2) (t := 58) rfl h20 ?_
    refine mGo.steps 1 (c' := (13, List.drop 22 mC13, [.ref p0, .ref p1, .int s.1], [.ref p0], s.2)) rfl ?_
    obtain ⟨h13, hr⟩ := mIf hr
    refine gGet (is := List.drop 23 mC13) (v := .ref (mP s.2 p0 1)) h13 rfl ?_
    refine mGo.steps 1 (c' := (13, List.drop 24 mC13, [.ref p0, .ref p1, .int s.1], [.int s.1, .ref (mP s.2 p0 1)], s.2)) rfl ?_
    obtain ⟨h14, hr⟩ := mIf hr
    refine gAald (is := List.drop 25 mC13) h14 ?_
    refine mGo.steps 1 (c' := (13, List.drop 26 mC13, [.ref p0, .ref p1, .int s.1], [.ref p1, .ref (mP s.2 (mP s.2 p0 1) (Int32.toNatClampNeg s.1))], s.2)) rfl ?_
    obtain ⟨h15, hr⟩ := mIf hr
    refine gGet (is := List.drop 27 mC13) (v := .ref (mP s.2 p1 1)) h15 rfl ?_
    refine mGo.steps 1 (c' := (13, List.drop 28 mC13, [.ref p0, .ref p1, .int s.1], [.int s.1, .ref (mP s.2 p1 1), .ref (mP s.2 (mP s.2 p0 1) (Int32.toNatClampNeg s.1))], s.2)) rfl ?_
    obtain ⟨h16, hr⟩ := mIf hr
    refine gAald (is := List.drop 29 mC13) h16 ?_
    obtain ⟨h17, hr⟩ := mIf hr
    obtain ⟨q18, h19, hr⟩ := mBi hr
    refine gCall (z := 85) (n := 1) (f := 0) (kind := 1) (a := (mP s.2 (mP s.2 p0 1) (Int32.toNatClampNeg s.1))) (As := [.ref (mP s.2 (mP s.2 p1 1) (Int32.toNatClampNeg s.1))]) (y := 13) (is := List.drop 30 mC13) (L := [.ref p0, .ref p1, .int s.1]) (rest := []) (μ := s.2) rfl (by decide) (by decide) ⟨rfl, rfl⟩ rfl h17 (Nat.le_of_ble_eq_true rfl) (Nat.le_of_ble_eq_true rfl) (t85 h19) ?_
    refine mGo.steps 2 (c' := (13, List.drop 18 mC13, [.ref p0, .ref p1, .int (s.1 + 1)], [], q18)) rfl ?_
    obtain rfl := Option.some.inj hr
    exact hC
theorem t13L18l (p0 : Nat) (p1 : Nat) {r : Option Value × mM} (n : Nat) (s : Int32 × mM) (o : (mM) ⊕ mM) (hr : mLoop (s13L18 p0 p1) n s = some o) (hC : Sum.elim (fun x : mM => ∀ (w2 : Value) (hw2 : mNotL w2 = true), mGo mG (13, List.drop 32 mC13, [.ref p0, .ref p1, w2], [], x) r) (fun y : mM => r = (none, y)) o) : mGo mG (13, List.drop 18 mC13, [.ref p0, .ref p1, .int s.1], [], s.2) r :=
  mLoop_go (Hd := (fun s' : Int32 × mM => mGo mG (13, List.drop 18 mC13, [.ref p0, .ref p1, .int s'.1], [], s'.2) r)) (fun s o hb hC => t13L18 p0 p1 s o hb hC) n s o hr hC
def s13 (μ : mM) (a0 : Nat) (a1 : Nat) : Option mM :=
  (mLoop (s13L2 a0 a1) 1000 (0, μ)).bind fun o9 => Sum.elim (fun x10 => (mLoop (s13L18 a0 a1) 1000 (0, x10)).bind fun o21 => Sum.elim (fun x22 => if (mS x22 a1).1 = 1 then if (mS x22 a0).1 = 1 then (some (mUI x22 a0 2 (mI x22 a1 2))).bind fun μ27 => (some (mUI μ27 a0 3 (mI μ27 a1 3))).bind fun μ28 => (some (mUI μ28 a0 4 (mI μ28 a1 4))).bind fun μ29 => (some (mUI μ29 a0 5 (mI μ29 a1 5))).bind fun μ30 => (some (mUI μ30 a0 6 (mI μ30 a1 6))).bind fun μ31 => some μ31 else none else none) (fun y23 => some y23) o21) (fun y11 => some y11) o9
set_option maxRecDepth 20000 in
theorem t13 {μ : mM} {a0 : Nat} {a1 : Nat} {o : mM} (hr : s13 μ a0 a1 = some o) : mEv mG 13 [.ref a0, .ref a1] μ (none) (o) := by
  obtain ⟨r, hC⟩ : ∃ r : Option Value × mM, r = (none, o) := ⟨_, rfl⟩
  show mGo mG (13, List.drop 0 mC13, [.ref a0, .ref a1, .retAddr 0], [], μ) (none, o)
  rw [← hC]
  unfold s13 at hr
  refine mGo.steps 2 (c' := (13, List.drop 2 mC13, [.ref a0, .ref a1, .int 0], [], μ)) rfl ?_
  obtain ⟨o9, h12, hr⟩ := mBi hr
  refine t13L2l a0 a1 1000 (0, μ) o9 h12 ?_ 
  cases o9 with
  | inl x10 =>
    show ∀ (w2 : Value) (hw2 : mNotL w2 = true), mGo mG (13, List.drop 16 mC13, [.ref a0, .ref a1, w2], [], x10) r
    intro w2 hw2
    replace hr : (_) = some _ := hr
    refine mGo.steps 2 (c' := (13, List.drop 18 mC13, [.ref a0, .ref a1, .int 0], [], x10)) rfl ?_
    obtain ⟨o21, h24, hr⟩ := mBi hr
    refine t13L18l a0 a1 1000 (0, x10) o21 h24 ?_ 
    cases o21 with
    | inl x22 =>
      show ∀ (w2 : Value) (hw2 : mNotL w2 = true), mGo mG (13, List.drop 32 mC13, [.ref a0, .ref a1, w2], [], x22) r
      intro w2 hw2
      replace hr : (_) = some _ := hr
      refine mGo.steps 2 (c' := (13, List.drop 34 mC13, [.ref a0, .ref a1, w2], [.ref a1, .ref a0], x22)) rfl ?_
      obtain ⟨h25, hr⟩ := mIf hr
      refine gGet (is := List.drop 35 mC13) (v := .int (mI x22 a1 2)) h25 rfl ?_
      obtain ⟨h26, hr⟩ := mIf hr
      replace hr := mBs hr
      refine gPut (is := List.drop 36 mC13) (μ' := mUI x22 a0 2 (mI x22 a1 2)) h26 rfl ?_
      let μ27 : mM := mUI x22 a0 2 (mI x22 a1 2)
      refine mGo.steps 2 (c' := (13, List.drop 38 mC13, [.ref a0, .ref a1, w2], [.ref a1, .ref a0], μ27)) rfl ?_
      refine gGet (is := List.drop 39 mC13) (v := .int (mI μ27 a1 3)) h25 rfl ?_
      replace hr := mBs hr
      refine gPut (is := List.drop 40 mC13) (μ' := mUI μ27 a0 3 (mI μ27 a1 3)) h26 rfl ?_
      let μ28 : mM := mUI μ27 a0 3 (mI μ27 a1 3)
      refine mGo.steps 2 (c' := (13, List.drop 42 mC13, [.ref a0, .ref a1, w2], [.ref a1, .ref a0], μ28)) rfl ?_
      refine gGet (is := List.drop 43 mC13) (v := .int (mI μ28 a1 4)) h25 rfl ?_
      replace hr := mBs hr
      refine gPut (is := List.drop 44 mC13) (μ' := mUI μ28 a0 4 (mI μ28 a1 4)) h26 rfl ?_
      let μ29 : mM := mUI μ28 a0 4 (mI μ28 a1 4)
      refine mGo.steps 2 (c' := (13, List.drop 46 mC13, [.ref a0, .ref a1, w2], [.ref a1, .ref a0], μ29)) rfl ?_
      refine gGet (is := List.drop 47 mC13) (v := .int (mI μ29 a1 5)) h25 rfl ?_
      replace hr := mBs hr
      refine gPut (is := List.drop 48 mC13) (μ' := mUI μ29 a0 5 (mI μ29 a1 5)) h26 rfl ?_
      let μ30 : mM := mUI μ29 a0 5 (mI μ29 a1 5)
      refine mGo.steps 2 (c' := (13, List.drop 50 mC13, [.ref a0, .ref a1, w2], [.ref a1, .ref a0], μ30)) rfl ?_
      refine gGet (is := List.drop 51 mC13) (v := .int (mI μ30 a1 6)) h25 rfl ?_
      replace hr := mBs hr
      refine gPut (is := List.drop 52 mC13) (μ' := mUI μ30 a0 6 (mI μ30 a1 6)) h26 rfl ?_
      let μ31 : mM := mUI μ30 a0 6 (mI μ30 a1 6)
      obtain rfl := Option.some.inj hr
      rw [show r = _ from hC]
      exact gVret rfl
    | inr y23 =>
      obtain rfl := Option.some.inj hr
      exact hC
  | inr y11 =>
    obtain rfl := Option.some.inj hr
    exact hC

/-! 14: TunnelFabric$Fabric.hasRouter(I)Z -/
def s14_14 (μ : mM) (a0 : Nat) (a1 : Int32) (t0 : Int32) : Option Int32 :=
  if t0 = 0 ∨ t0 = 1 then some t0 else none
set_option maxRecDepth 20000 in
theorem t14_14 (μ : mM) (a0 : Nat) (a1 : Int32) (t0 : Int32) (w0 : Value) (hw0 : mNotL w0 = true) (w1 : Value) (hw1 : mNotL w1 = true) {o : Int32} {r : Option Value × mM} (hr : s14_14 μ a0 a1 t0 = some o) (hC : r = (some (.int o), μ)) : mGo mG (14, List.drop 14 mC14, [w0, w1], [.int t0], μ) r := by
  unfold s14_14 at hr
  obtain ⟨h1, hr⟩ := mIf hr
  obtain rfl := Option.some.inj hr
  rw [show r = _ from hC]
  exact gZret rfl h1
def s14_13 (μ : mM) (a0 : Nat) (a1 : Int32) : Option Int32 :=
  s14_14 μ a0 a1 0
set_option maxRecDepth 20000 in
theorem t14_13 (μ : mM) (a0 : Nat) (a1 : Int32) (w0 : Value) (hw0 : mNotL w0 = true) (w1 : Value) (hw1 : mNotL w1 = true) {o : Int32} {r : Option Value × mM} (hr : s14_13 μ a0 a1 = some o) (hC : r = (some (.int o), μ)) : mGo mG (14, List.drop 13 mC14, [w0, w1], [], μ) r := by
  unfold s14_13 at hr
  refine mGo.steps 1 (c' := (14, List.drop 14 mC14, [w0, w1], [.int 0], μ)) rfl ?_
  exact t14_14 μ a0 a1 0 w0 hw0 w1 hw1 hr hC
def s14 (μ : mM) (a0 : Nat) (a1 : Int32) : Option Int32 :=
  if a1 < 0 then (s14_13 μ a0 a1) else (if 8 ≤ a1 then (s14_13 μ a0 a1) else (if (mS μ a0).1 = 1 then if (mS μ (mP μ a0 0)).1 = 20 + 4 ∧ mInb a1 (mS μ (mP μ a0 0)).2 then if (mS μ (mP μ (mP μ a0 0) (Int32.toNatClampNeg a1))).1 = 4 then if (mI μ (mP μ (mP μ a0 0) (Int32.toNatClampNeg a1)) 0) = 0 then (s14_13 μ a0 a1) else (s14_14 μ a0 a1 1) else none else none else none))
set_option maxRecDepth 20000 in
theorem t14 {μ : mM} {a0 : Nat} {a1 : Int32} {o : Int32} (hr : s14 μ a0 a1 = some o) : mEv mG 14 [.ref a0, .int a1] μ (some (.int o)) (μ) := by
  obtain ⟨r, hC⟩ : ∃ r : Option Value × mM, r = (some (.int o), μ) := ⟨_, rfl⟩
  show mGo mG (14, List.drop 0 mC14, [.ref a0, .int a1], [], μ) (some (.int o), μ)
  rw [← hC]
  unfold s14 at hr
  refine mGo.steps 1 (c' := (14, List.drop 1 mC14, [.ref a0, .int a1], [.int a1], μ)) rfl ?_
  rcases mIte hr with ⟨h7, hr⟩ | ⟨h7, hr⟩
  · refine gBrT (p := a1 < 0) (y := 14) (is := List.drop 2 mC14) (L := [.ref a0, .int a1]) (st := []) (μ := μ) (t := 26) rfl h7 ?_
    exact t14_13 μ a0 a1 (.ref a0) rfl (.int a1) rfl hr hC
  · refine gBrF (p := a1 < 0) (y := 14) (is := List.drop 2 mC14) (L := [.ref a0, .int a1]) (st := []) (μ := μ) (t := 26) rfl h7 ?_
    refine mGo.steps 2 (c' := (14, List.drop 4 mC14, [.ref a0, .int a1], [.int 8, .int a1], μ)) rfl ?_
    rcases mIte hr with ⟨h6, hr⟩ | ⟨h6, hr⟩
    · refine gBrT (p := 8 ≤ a1) (y := 14) (is := List.drop 5 mC14) (L := [.ref a0, .int a1]) (st := []) (μ := μ) (t := 26) rfl h6 ?_
      exact t14_13 μ a0 a1 (.ref a0) rfl (.int a1) rfl hr hC
    · refine gBrF (p := 8 ≤ a1) (y := 14) (is := List.drop 5 mC14) (L := [.ref a0, .int a1]) (st := []) (μ := μ) (t := 26) rfl h6 ?_
      refine mGo.steps 1 (c' := (14, List.drop 6 mC14, [.ref a0, .int a1], [.ref a0], μ)) rfl ?_
      obtain ⟨h2, hr⟩ := mIf hr
      refine gGet (is := List.drop 7 mC14) (v := .ref (mP μ a0 0)) h2 rfl ?_
      refine mGo.steps 1 (c' := (14, List.drop 8 mC14, [.ref a0, .int a1], [.int a1, .ref (mP μ a0 0)], μ)) rfl ?_
      obtain ⟨h3, hr⟩ := mIf hr
      refine gAald (is := List.drop 9 mC14) h3 ?_
      obtain ⟨h4, hr⟩ := mIf hr
      refine gGet (is := List.drop 10 mC14) (v := .int (mI μ (mP μ (mP μ a0 0) (Int32.toNatClampNeg a1)) 0)) h4 rfl ?_
      rcases mIte hr with ⟨h5, hr⟩ | ⟨h5, hr⟩
      · refine gBrT (p := (mI μ (mP μ (mP μ a0 0) (Int32.toNatClampNeg a1)) 0) = 0) (y := 14) (is := List.drop 11 mC14) (L := [.ref a0, .int a1]) (st := []) (μ := μ) (t := 26) rfl h5 ?_
        exact t14_13 μ a0 a1 (.ref a0) rfl (.int a1) rfl hr hC
      · refine gBrF (p := (mI μ (mP μ (mP μ a0 0) (Int32.toNatClampNeg a1)) 0) = 0) (y := 14) (is := List.drop 11 mC14) (L := [.ref a0, .int a1]) (st := []) (μ := μ) (t := 26) rfl h5 ?_
        refine mGo.steps 2 (c' := (14, List.drop 14 mC14, [.ref a0, .int a1], [.int 1], μ)) rfl ?_
        exact t14_14 μ a0 a1 1 (.ref a0) rfl (.int a1) rfl hr hC

/-! 15: TunnelFabric$Fabric.hasLink(I)Z -/
def s15_9 (μ : mM) (a0 : Nat) (a1 : Int32) (t0 : Int32) : Option Int32 :=
  if t0 = 0 ∨ t0 = 1 then some t0 else none
set_option maxRecDepth 20000 in
theorem t15_9 (μ : mM) (a0 : Nat) (a1 : Int32) (t0 : Int32) (w0 : Value) (hw0 : mNotL w0 = true) (w1 : Value) (hw1 : mNotL w1 = true) {o : Int32} {r : Option Value × mM} (hr : s15_9 μ a0 a1 t0 = some o) (hC : r = (some (.int o), μ)) : mGo mG (15, List.drop 9 mC15, [w0, w1], [.int t0], μ) r := by
  unfold s15_9 at hr
  obtain ⟨h1, hr⟩ := mIf hr
  obtain rfl := Option.some.inj hr
  rw [show r = _ from hC]
  exact gZret rfl h1
def s15_8 (μ : mM) (a0 : Nat) (a1 : Int32) : Option Int32 :=
  s15_9 μ a0 a1 0
set_option maxRecDepth 20000 in
theorem t15_8 (μ : mM) (a0 : Nat) (a1 : Int32) (w0 : Value) (hw0 : mNotL w0 = true) (w1 : Value) (hw1 : mNotL w1 = true) {o : Int32} {r : Option Value × mM} (hr : s15_8 μ a0 a1 = some o) (hC : r = (some (.int o), μ)) : mGo mG (15, List.drop 8 mC15, [w0, w1], [], μ) r := by
  unfold s15_8 at hr
  refine mGo.steps 1 (c' := (15, List.drop 9 mC15, [w0, w1], [.int 0], μ)) rfl ?_
  exact t15_9 μ a0 a1 0 w0 hw0 w1 hw1 hr hC
def s15 (μ : mM) (a0 : Nat) (a1 : Int32) : Option Int32 :=
  if a1 = 0 then (s15_8 μ a0 a1) else (if (mS μ a0).1 = 1 then (s14 μ a0 a1).bind fun q3 => if q3 = 0 then (s15_8 μ a0 a1) else (s15_9 μ a0 a1 1) else none)
set_option maxRecDepth 20000 in
theorem t15 {μ : mM} {a0 : Nat} {a1 : Int32} {o : Int32} (hr : s15 μ a0 a1 = some o) : mEv mG 15 [.ref a0, .int a1] μ (some (.int o)) (μ) := by
  obtain ⟨r, hC⟩ : ∃ r : Option Value × mM, r = (some (.int o), μ) := ⟨_, rfl⟩
  show mGo mG (15, List.drop 0 mC15, [.ref a0, .int a1], [], μ) (some (.int o), μ)
  rw [← hC]
  unfold s15 at hr
  refine mGo.steps 1 (c' := (15, List.drop 1 mC15, [.ref a0, .int a1], [.int a1], μ)) rfl ?_
  rcases mIte hr with ⟨h6, hr⟩ | ⟨h6, hr⟩
  · refine gBrT (p := a1 = 0) (y := 15) (is := List.drop 2 mC15) (L := [.ref a0, .int a1]) (st := []) (μ := μ) (t := 16) rfl h6 ?_
    exact t15_8 μ a0 a1 (.ref a0) rfl (.int a1) rfl hr hC
  · refine gBrF (p := a1 = 0) (y := 15) (is := List.drop 2 mC15) (L := [.ref a0, .int a1]) (st := []) (μ := μ) (t := 16) rfl h6 ?_
    refine mGo.steps 2 (c' := (15, List.drop 4 mC15, [.ref a0, .int a1], [.int a1, .ref a0], μ)) rfl ?_
    obtain ⟨h2, hr⟩ := mIf hr
    obtain ⟨q3, h4, hr⟩ := mBi hr
    refine gCall (z := 14) (n := 1) (f := 0) (kind := 1) (a := a0) (As := [.int a1]) (y := 15) (is := List.drop 5 mC15) (L := [.ref a0, .int a1]) (rest := []) (μ := μ) rfl (by decide) (by decide) ⟨rfl, rfl⟩ rfl h2 (Nat.le_of_ble_eq_true rfl) (Nat.le_of_ble_eq_true rfl) (t14 h4) ?_
    rcases mIte hr with ⟨h5, hr⟩ | ⟨h5, hr⟩
    · refine gBrT (p := q3 = 0) (y := 15) (is := List.drop 6 mC15) (L := [.ref a0, .int a1]) (st := []) (μ := μ) (t := 16) rfl h5 ?_
      exact t15_8 μ a0 a1 (.ref a0) rfl (.int a1) rfl hr hC
    · refine gBrF (p := q3 = 0) (y := 15) (is := List.drop 6 mC15) (L := [.ref a0, .int a1]) (st := []) (μ := μ) (t := 16) rfl h5 ?_
      refine mGo.steps 2 (c' := (15, List.drop 9 mC15, [.ref a0, .int a1], [.int 1], μ)) rfl ?_
      exact t15_9 μ a0 a1 1 (.ref a0) rfl (.int a1) rfl hr hC

/-! 133: TunnelFabric.portsOf(I)I -/
def s133 (μ : mM) (a0 : Int32) : Option Int32 :=
  if a0 = 0 then (some 3) else (if a0 = 1 then (some 1) else (if a0 = 2 then (some 1) else (if a0 = 3 then (some 0) else (if a0 = 4 then (some 2) else (some 0)))))
set_option maxRecDepth 20000 in
theorem t133 {μ : mM} {a0 : Int32} {o : Int32} (hr : s133 μ a0 = some o) : mEv mG 133 [.int a0] μ (some (.int o)) (μ) := by
  obtain ⟨r, hC⟩ : ∃ r : Option Value × mM, r = (some (.int o), μ) := ⟨_, rfl⟩
  show mGo mG (133, List.drop 0 mC133, [.int a0], [], μ) (some (.int o), μ)
  rw [← hC]
  unfold s133 at hr
  refine mGo.steps 1 (c' := (133, List.drop 1 mC133, [.int a0], [.int a0], μ)) rfl ?_
  refine mGo.steps 1 (c' := (133, mSeek (mTs a0 0 [36, 38, 40, 44, 42] 44) (rC (mG 133)), [.int a0], [], μ)) rfl ?_
  rcases mIte hr with ⟨h1, hr⟩ | ⟨h1, hr⟩
  · refine gTs1 (w := 0) h1 rfl ?_
    refine mGo.steps 1 (c' := (133, List.drop 3 mC133, [.int a0], [.int 3], μ)) rfl ?_
    obtain rfl := Option.some.inj hr
    rw [show r = _ from hC]
    exact gIret rfl
  · refine gTs0 (w := 0) h1 rfl ?_
    rcases mIte hr with ⟨h2, hr⟩ | ⟨h2, hr⟩
    · refine gTs1 (w := 1) h2 rfl ?_
      refine mGo.steps 1 (c' := (133, List.drop 5 mC133, [.int a0], [.int 1], μ)) rfl ?_
      obtain rfl := Option.some.inj hr
      rw [show r = _ from hC]
      exact gIret rfl
    · refine gTs0 (w := 1) h2 rfl ?_
      rcases mIte hr with ⟨h3, hr⟩ | ⟨h3, hr⟩
      · refine gTs1 (w := 2) h3 rfl ?_
        refine mGo.steps 1 (c' := (133, List.drop 7 mC133, [.int a0], [.int 1], μ)) rfl ?_
        obtain rfl := Option.some.inj hr
        rw [show r = _ from hC]
        exact gIret rfl
      · refine gTs0 (w := 2) h3 rfl ?_
        rcases mIte hr with ⟨h4, hr⟩ | ⟨h4, hr⟩
        · refine gTs1 (w := 3) h4 rfl ?_
          refine mGo.steps 1 (c' := (133, List.drop 11 mC133, [.int a0], [.int 0], μ)) rfl ?_
          obtain rfl := Option.some.inj hr
          rw [show r = _ from hC]
          exact gIret rfl
        · refine gTs0 (w := 3) h4 rfl ?_
          rcases mIte hr with ⟨h5, hr⟩ | ⟨h5, hr⟩
          · refine gTs1 (w := 4) h5 rfl ?_
            refine mGo.steps 1 (c' := (133, List.drop 9 mC133, [.int a0], [.int 2], μ)) rfl ?_
            obtain rfl := Option.some.inj hr
            rw [show r = _ from hC]
            exact gIret rfl
          · refine gTs0 (w := 4) h5 rfl ?_
            refine mGo.steps 1 (c' := (133, List.drop 11 mC133, [.int a0], [.int 0], μ)) rfl ?_
            obtain rfl := Option.some.inj hr
            rw [show r = _ from hC]
            exact gIret rfl

/-! 16: TunnelFabric$Fabric.hasPort(II)Z -/
def s16_17 (μ : mM) (a0 : Nat) (a1 : Int32) (a2 : Int32) (t0 : Int32) : Option Int32 :=
  if t0 = 0 ∨ t0 = 1 then some t0 else none
set_option maxRecDepth 20000 in
theorem t16_17 (μ : mM) (a0 : Nat) (a1 : Int32) (a2 : Int32) (t0 : Int32) (w0 : Value) (hw0 : mNotL w0 = true) (w1 : Value) (hw1 : mNotL w1 = true) (w2 : Value) (hw2 : mNotL w2 = true) {o : Int32} {r : Option Value × mM} (hr : s16_17 μ a0 a1 a2 t0 = some o) (hC : r = (some (.int o), μ)) : mGo mG (16, List.drop 17 mC16, [w0, w1, w2], [.int t0], μ) r := by
  unfold s16_17 at hr
  obtain ⟨h4, hr⟩ := mIf hr
  obtain rfl := Option.some.inj hr
  rw [show r = _ from hC]
  exact gZret rfl h4
def s16_16 (μ : mM) (a0 : Nat) (a1 : Int32) (a2 : Int32) : Option Int32 :=
  s16_17 μ a0 a1 a2 0
set_option maxRecDepth 20000 in
theorem t16_16 (μ : mM) (a0 : Nat) (a1 : Int32) (a2 : Int32) (w0 : Value) (hw0 : mNotL w0 = true) (w1 : Value) (hw1 : mNotL w1 = true) (w2 : Value) (hw2 : mNotL w2 = true) {o : Int32} {r : Option Value × mM} (hr : s16_16 μ a0 a1 a2 = some o) (hC : r = (some (.int o), μ)) : mGo mG (16, List.drop 16 mC16, [w0, w1, w2], [], μ) r := by
  unfold s16_16 at hr
  refine mGo.steps 1 (c' := (16, List.drop 17 mC16, [w0, w1, w2], [.int 0], μ)) rfl ?_
  exact t16_17 μ a0 a1 a2 0 w0 hw0 w1 hw1 w2 hw2 hr hC
def s16 (μ : mM) (a0 : Nat) (a1 : Int32) (a2 : Int32) : Option Int32 :=
  if (mS μ a0).1 = 1 then (s14 μ a0 a1).bind fun q2 => if q2 = 0 then (s16_16 μ a0 a1 a2) else (if a2 < 0 then (s16_16 μ a0 a1 a2) else (if (mS μ (mP μ a0 0)).1 = 20 + 4 ∧ mInb a1 (mS μ (mP μ a0 0)).2 then if (mS μ (mP μ (mP μ a0 0) (Int32.toNatClampNeg a1))).1 = 4 then (s133 μ (mI μ (mP μ (mP μ a0 0) (Int32.toNatClampNeg a1)) 1)).bind fun q7 => if q7 ≤ a2 then (s16_16 μ a0 a1 a2) else (s16_17 μ a0 a1 a2 1) else none else none)) else none
set_option maxRecDepth 20000 in
theorem t16 {μ : mM} {a0 : Nat} {a1 : Int32} {a2 : Int32} {o : Int32} (hr : s16 μ a0 a1 a2 = some o) : mEv mG 16 [.ref a0, .int a1, .int a2] μ (some (.int o)) (μ) := by
  obtain ⟨r, hC⟩ : ∃ r : Option Value × mM, r = (some (.int o), μ) := ⟨_, rfl⟩
  show mGo mG (16, List.drop 0 mC16, [.ref a0, .int a1, .int a2], [], μ) (some (.int o), μ)
  rw [← hC]
  unfold s16 at hr
  refine mGo.steps 2 (c' := (16, List.drop 2 mC16, [.ref a0, .int a1, .int a2], [.int a1, .ref a0], μ)) rfl ?_
  obtain ⟨h1, hr⟩ := mIf hr
  obtain ⟨q2, h3, hr⟩ := mBi hr
  refine gCall (z := 14) (n := 1) (f := 0) (kind := 1) (a := a0) (As := [.int a1]) (y := 16) (is := List.drop 3 mC16) (L := [.ref a0, .int a1, .int a2]) (rest := []) (μ := μ) rfl (by decide) (by decide) ⟨rfl, rfl⟩ rfl h1 (Nat.le_of_ble_eq_true rfl) (Nat.le_of_ble_eq_true rfl) (t14 h3) ?_
  rcases mIte hr with ⟨h11, hr⟩ | ⟨h11, hr⟩
  · refine gBrT (p := q2 = 0) (y := 16) (is := List.drop 4 mC16) (L := [.ref a0, .int a1, .int a2]) (st := []) (μ := μ) (t := 32) rfl h11 ?_
    exact t16_16 μ a0 a1 a2 (.ref a0) rfl (.int a1) rfl (.int a2) rfl hr hC
  · refine gBrF (p := q2 = 0) (y := 16) (is := List.drop 4 mC16) (L := [.ref a0, .int a1, .int a2]) (st := []) (μ := μ) (t := 32) rfl h11 ?_
    refine mGo.steps 1 (c' := (16, List.drop 5 mC16, [.ref a0, .int a1, .int a2], [.int a2], μ)) rfl ?_
    rcases mIte hr with ⟨h10, hr⟩ | ⟨h10, hr⟩
    · refine gBrT (p := a2 < 0) (y := 16) (is := List.drop 6 mC16) (L := [.ref a0, .int a1, .int a2]) (st := []) (μ := μ) (t := 32) rfl h10 ?_
      exact t16_16 μ a0 a1 a2 (.ref a0) rfl (.int a1) rfl (.int a2) rfl hr hC
    · refine gBrF (p := a2 < 0) (y := 16) (is := List.drop 6 mC16) (L := [.ref a0, .int a1, .int a2]) (st := []) (μ := μ) (t := 32) rfl h10 ?_
      refine mGo.steps 2 (c' := (16, List.drop 8 mC16, [.ref a0, .int a1, .int a2], [.ref a0, .int a2], μ)) rfl ?_
      refine gGet (is := List.drop 9 mC16) (v := .ref (mP μ a0 0)) h1 rfl ?_
      refine mGo.steps 1 (c' := (16, List.drop 10 mC16, [.ref a0, .int a1, .int a2], [.int a1, .ref (mP μ a0 0), .int a2], μ)) rfl ?_
      obtain ⟨h5, hr⟩ := mIf hr
      refine gAald (is := List.drop 11 mC16) h5 ?_
      obtain ⟨h6, hr⟩ := mIf hr
      refine gGet (is := List.drop 12 mC16) (v := .int (mI μ (mP μ (mP μ a0 0) (Int32.toNatClampNeg a1)) 1)) h6 rfl ?_
      obtain ⟨q7, h8, hr⟩ := mBi hr
      refine mGo.call (z := 133) (as := [.int (mI μ (mP μ (mP μ a0 0) (Int32.toNatClampNeg a1)) 1)]) (y := 16) (is := List.drop 13 mC16) (L := [.ref a0, .int a1, .int a2]) (st := [.int a2]) (μ := μ) rfl (t133 h8) ?_
      rcases mIte hr with ⟨h9, hr⟩ | ⟨h9, hr⟩
      · refine gBrT (p := q7 ≤ a2) (y := 16) (is := List.drop 14 mC16) (L := [.ref a0, .int a1, .int a2]) (st := []) (μ := μ) (t := 32) rfl h9 ?_
        exact t16_16 μ a0 a1 a2 (.ref a0) rfl (.int a1) rfl (.int a2) rfl hr hC
      · refine gBrF (p := q7 ≤ a2) (y := 16) (is := List.drop 14 mC16) (L := [.ref a0, .int a1, .int a2]) (st := []) (μ := μ) (t := 32) rfl h9 ?_
        refine mGo.steps 2 (c' := (16, List.drop 17 mC16, [.ref a0, .int a1, .int a2], [.int 1], μ)) rfl ?_
        exact t16_17 μ a0 a1 a2 1 (.ref a0) rfl (.int a1) rfl (.int a2) rfl hr hC

/-! 17: TunnelFabric$Fabric.hasTunnel(I)Z -/
def s17_14 (μ : mM) (a0 : Nat) (a1 : Int32) (t0 : Int32) : Option Int32 :=
  if t0 = 0 ∨ t0 = 1 then some t0 else none
set_option maxRecDepth 20000 in
theorem t17_14 (μ : mM) (a0 : Nat) (a1 : Int32) (t0 : Int32) (w0 : Value) (hw0 : mNotL w0 = true) (w1 : Value) (hw1 : mNotL w1 = true) {o : Int32} {r : Option Value × mM} (hr : s17_14 μ a0 a1 t0 = some o) (hC : r = (some (.int o), μ)) : mGo mG (17, List.drop 14 mC17, [w0, w1], [.int t0], μ) r := by
  unfold s17_14 at hr
  obtain ⟨h1, hr⟩ := mIf hr
  obtain rfl := Option.some.inj hr
  rw [show r = _ from hC]
  exact gZret rfl h1
def s17_13 (μ : mM) (a0 : Nat) (a1 : Int32) : Option Int32 :=
  s17_14 μ a0 a1 0
set_option maxRecDepth 20000 in
theorem t17_13 (μ : mM) (a0 : Nat) (a1 : Int32) (w0 : Value) (hw0 : mNotL w0 = true) (w1 : Value) (hw1 : mNotL w1 = true) {o : Int32} {r : Option Value × mM} (hr : s17_13 μ a0 a1 = some o) (hC : r = (some (.int o), μ)) : mGo mG (17, List.drop 13 mC17, [w0, w1], [], μ) r := by
  unfold s17_13 at hr
  refine mGo.steps 1 (c' := (17, List.drop 14 mC17, [w0, w1], [.int 0], μ)) rfl ?_
  exact t17_14 μ a0 a1 0 w0 hw0 w1 hw1 hr hC
def s17 (μ : mM) (a0 : Nat) (a1 : Int32) : Option Int32 :=
  if a1 < 0 then (s17_13 μ a0 a1) else (if 10 ≤ a1 then (s17_13 μ a0 a1) else (if (mS μ a0).1 = 1 then if (mS μ (mP μ a0 1)).1 = 20 + 6 ∧ mInb a1 (mS μ (mP μ a0 1)).2 then if (mS μ (mP μ (mP μ a0 1) (Int32.toNatClampNeg a1))).1 = 6 then if (mI μ (mP μ (mP μ a0 1) (Int32.toNatClampNeg a1)) 0) = 0 then (s17_13 μ a0 a1) else (s17_14 μ a0 a1 1) else none else none else none))
set_option maxRecDepth 20000 in
theorem t17 {μ : mM} {a0 : Nat} {a1 : Int32} {o : Int32} (hr : s17 μ a0 a1 = some o) : mEv mG 17 [.ref a0, .int a1] μ (some (.int o)) (μ) := by
  obtain ⟨r, hC⟩ : ∃ r : Option Value × mM, r = (some (.int o), μ) := ⟨_, rfl⟩
  show mGo mG (17, List.drop 0 mC17, [.ref a0, .int a1], [], μ) (some (.int o), μ)
  rw [← hC]
  unfold s17 at hr
  refine mGo.steps 1 (c' := (17, List.drop 1 mC17, [.ref a0, .int a1], [.int a1], μ)) rfl ?_
  rcases mIte hr with ⟨h7, hr⟩ | ⟨h7, hr⟩
  · refine gBrT (p := a1 < 0) (y := 17) (is := List.drop 2 mC17) (L := [.ref a0, .int a1]) (st := []) (μ := μ) (t := 26) rfl h7 ?_
    exact t17_13 μ a0 a1 (.ref a0) rfl (.int a1) rfl hr hC
  · refine gBrF (p := a1 < 0) (y := 17) (is := List.drop 2 mC17) (L := [.ref a0, .int a1]) (st := []) (μ := μ) (t := 26) rfl h7 ?_
    refine mGo.steps 2 (c' := (17, List.drop 4 mC17, [.ref a0, .int a1], [.int 10, .int a1], μ)) rfl ?_
    rcases mIte hr with ⟨h6, hr⟩ | ⟨h6, hr⟩
    · refine gBrT (p := 10 ≤ a1) (y := 17) (is := List.drop 5 mC17) (L := [.ref a0, .int a1]) (st := []) (μ := μ) (t := 26) rfl h6 ?_
      exact t17_13 μ a0 a1 (.ref a0) rfl (.int a1) rfl hr hC
    · refine gBrF (p := 10 ≤ a1) (y := 17) (is := List.drop 5 mC17) (L := [.ref a0, .int a1]) (st := []) (μ := μ) (t := 26) rfl h6 ?_
      refine mGo.steps 1 (c' := (17, List.drop 6 mC17, [.ref a0, .int a1], [.ref a0], μ)) rfl ?_
      obtain ⟨h2, hr⟩ := mIf hr
      refine gGet (is := List.drop 7 mC17) (v := .ref (mP μ a0 1)) h2 rfl ?_
      refine mGo.steps 1 (c' := (17, List.drop 8 mC17, [.ref a0, .int a1], [.int a1, .ref (mP μ a0 1)], μ)) rfl ?_
      obtain ⟨h3, hr⟩ := mIf hr
      refine gAald (is := List.drop 9 mC17) h3 ?_
      obtain ⟨h4, hr⟩ := mIf hr
      refine gGet (is := List.drop 10 mC17) (v := .int (mI μ (mP μ (mP μ a0 1) (Int32.toNatClampNeg a1)) 0)) h4 rfl ?_
      rcases mIte hr with ⟨h5, hr⟩ | ⟨h5, hr⟩
      · refine gBrT (p := (mI μ (mP μ (mP μ a0 1) (Int32.toNatClampNeg a1)) 0) = 0) (y := 17) (is := List.drop 11 mC17) (L := [.ref a0, .int a1]) (st := []) (μ := μ) (t := 26) rfl h5 ?_
        exact t17_13 μ a0 a1 (.ref a0) rfl (.int a1) rfl hr hC
      · refine gBrF (p := (mI μ (mP μ (mP μ a0 1) (Int32.toNatClampNeg a1)) 0) = 0) (y := 17) (is := List.drop 11 mC17) (L := [.ref a0, .int a1]) (st := []) (μ := μ) (t := 26) rfl h5 ?_
        refine mGo.steps 2 (c' := (17, List.drop 14 mC17, [.ref a0, .int a1], [.int 1], μ)) rfl ?_
        exact t17_14 μ a0 a1 1 (.ref a0) rfl (.int a1) rfl hr hC

/-! 27: TunnelFabric$Fabric.isWithin(II)Z -/
def s27L4 (μ : mM) (p0 : Nat) (p2 : Int32) (s : Int32 × Int32) : Option ((Int32 × Int32) ⊕ ((Int32) ⊕ Int32)) :=
  if 4 ≤ s.2 then (some (.inr (.inl s.1))) else (if s.1 = 0 then (some (.inr (.inl s.1))) else (if s.1 = p2 then (some (.inr (.inl s.1))) else (if (mS μ p0).1 = 1 then (s18 μ p0 s.1).bind fun q2 => if (mS μ q2).1 = 4 then some (.inl (mI μ q2 3, s.2 + 1)) else none else none)))
set_option maxRecDepth 20000 in
theorem t27L4 (μ : mM) (p0 : Nat) (p2 : Int32) {r : Option Value × mM} (s : Int32 × Int32) (o : ((Int32 × Int32) ⊕ ((Int32) ⊕ Int32))) (hr : s27L4 μ p0 p2 s = some o) (hC : Sum.elim (fun s' : Int32 × Int32 => ∀ (w1 : Value) (hw1 : mNotL w1 = true), mGo mG (27, List.drop 4 mC27, [.ref p0, w1, .int p2, .int s'.1, .int s'.2], [], μ) r) (Sum.elim (fun x : Int32 => ∀ (w0 : Value) (hw0 : mNotL w0 = true) (w1 : Value) (hw1 : mNotL w1 = true) (w4 : Value) (hw4 : mNotL w4 = true), mGo mG (27, List.drop 19 mC27, [w0, w1, .int p2, .int x, w4], [], μ) r) (fun y : Int32 => r = (some (.int y), μ))) o) : ∀ (w1 : Value) (hw1 : mNotL w1 = true), mGo mG (27, List.drop 4 mC27, [.ref p0, w1, .int p2, .int s.1, .int s.2], [], μ) r := by
  intro w1 hw1
  unfold s27L4 at hr
  refine mGo.steps 2 (c' := (27, List.drop 6 mC27, [.ref p0, w1, .int p2, .int s.1, .int s.2], [.int 4, .int s.2], μ)) rfl ?_
  rcases mIte hr with ⟨h7, hr⟩ | ⟨h7, hr⟩
  · refine gBrT (p := 4 ≤ s.2) (y := 27) (is := List.drop 7 mC27) (L := [.ref p0, w1, .int p2, .int s.1, .int s.2]) (st := []) (μ := μ) (t := 35) rfl h7 ?_
    obtain rfl := Option.some.inj hr
    exact hC (.ref p0) rfl w1 hw1 (.int s.2) rfl
  · refine gBrF (p := 4 ≤ s.2) (y := 27) (is := List.drop 7 mC27) (L := [.ref p0, w1, .int p2, .int s.1, .int s.2]) (st := []) (μ := μ) (t := 35) rfl h7 ?_
    refine mGo.steps 1 (c' := (27, List.drop 8 mC27, [.ref p0, w1, .int p2, .int s.1, .int s.2], [.int s.1], μ)) rfl ?_
    rcases mIte hr with ⟨h6, hr⟩ | ⟨h6, hr⟩
    · refine gBrT (p := s.1 = 0) (y := 27) (is := List.drop 9 mC27) (L := [.ref p0, w1, .int p2, .int s.1, .int s.2]) (st := []) (μ := μ) (t := 35) rfl h6 ?_
      obtain rfl := Option.some.inj hr
      exact hC (.ref p0) rfl w1 hw1 (.int s.2) rfl
    · refine gBrF (p := s.1 = 0) (y := 27) (is := List.drop 9 mC27) (L := [.ref p0, w1, .int p2, .int s.1, .int s.2]) (st := []) (μ := μ) (t := 35) rfl h6 ?_
      refine mGo.steps 2 (c' := (27, List.drop 11 mC27, [.ref p0, w1, .int p2, .int s.1, .int s.2], [.int p2, .int s.1], μ)) rfl ?_
      rcases mIte hr with ⟨h5, hr⟩ | ⟨h5, hr⟩
      · refine gBrT (p := s.1 = p2) (y := 27) (is := List.drop 12 mC27) (L := [.ref p0, w1, .int p2, .int s.1, .int s.2]) (st := []) (μ := μ) (t := 35) rfl h5 ?_
        obtain rfl := Option.some.inj hr
        exact hC (.ref p0) rfl w1 hw1 (.int s.2) rfl
      · refine gBrF (p := s.1 = p2) (y := 27) (is := List.drop 12 mC27) (L := [.ref p0, w1, .int p2, .int s.1, .int s.2]) (st := []) (μ := μ) (t := 35) rfl h5 ?_
        refine mGo.steps 2 (c' := (27, List.drop 14 mC27, [.ref p0, w1, .int p2, .int s.1, .int s.2], [.int s.1, .ref p0], μ)) rfl ?_
        obtain ⟨h1, hr⟩ := mIf hr
        obtain ⟨q2, h3, hr⟩ := mBi hr
        refine gCall (z := 18) (n := 1) (f := 0) (kind := 1) (a := p0) (As := [.int s.1]) (y := 27) (is := List.drop 15 mC27) (L := [.ref p0, w1, .int p2, .int s.1, .int s.2]) (rest := []) (μ := μ) rfl (by decide) (by decide) ⟨rfl, rfl⟩ rfl h1 (Nat.le_of_ble_eq_true rfl) (Nat.le_of_ble_eq_true rfl) (t18 h3) ?_
        obtain ⟨h4, hr⟩ := mIf hr
        refine gGet (is := List.drop 16 mC27) (v := .int (mI μ q2 3)) h4 rfl ?_
        refine mGo.steps 3 (c' := (27, List.drop 4 mC27, [.ref p0, w1, .int p2, .int (mI μ q2 3), .int (s.2 + 1)], [], μ)) rfl ?_
        obtain rfl := Option.some.inj hr
        exact hC w1 hw1
theorem t27L4l (μ : mM) (p0 : Nat) (p2 : Int32) {r : Option Value × mM} (n : Nat) (s : Int32 × Int32) (o : (Int32) ⊕ Int32) (hr : mLoop (s27L4 μ p0 p2) n s = some o) (hC : Sum.elim (fun x : Int32 => ∀ (w0 : Value) (hw0 : mNotL w0 = true) (w1 : Value) (hw1 : mNotL w1 = true) (w4 : Value) (hw4 : mNotL w4 = true), mGo mG (27, List.drop 19 mC27, [w0, w1, .int p2, .int x, w4], [], μ) r) (fun y : Int32 => r = (some (.int y), μ)) o) : ∀ (w1 : Value) (hw1 : mNotL w1 = true), mGo mG (27, List.drop 4 mC27, [.ref p0, w1, .int p2, .int s.1, .int s.2], [], μ) r :=
  mLoop_go (Hd := (fun s' : Int32 × Int32 => ∀ (w1 : Value) (hw1 : mNotL w1 = true), mGo mG (27, List.drop 4 mC27, [.ref p0, w1, .int p2, .int s'.1, .int s'.2], [], μ) r)) (fun s o hb hC => t27L4 μ p0 p2 s o hb hC) n s o hr hC
def s27_25 (μ : mM) (a0 : Nat) (a1 : Int32) (a2 : Int32) (t0 : Int32) : Option Int32 :=
  if t0 = 0 ∨ t0 = 1 then some t0 else none
set_option maxRecDepth 20000 in
theorem t27_25 (μ : mM) (a0 : Nat) (a1 : Int32) (a2 : Int32) (t0 : Int32) (w0 : Value) (hw0 : mNotL w0 = true) (w1 : Value) (hw1 : mNotL w1 = true) (w2 : Value) (hw2 : mNotL w2 = true) (w3 : Value) (hw3 : mNotL w3 = true) (w4 : Value) (hw4 : mNotL w4 = true) {o : Int32} {r : Option Value × mM} (hr : s27_25 μ a0 a1 a2 t0 = some o) (hC : r = (some (.int o), μ)) : mGo mG (27, List.drop 25 mC27, [w0, w1, w2, w3, w4], [.int t0], μ) r := by
  unfold s27_25 at hr
  obtain ⟨h12, hr⟩ := mIf hr
  obtain rfl := Option.some.inj hr
  rw [show r = _ from hC]
  exact gZret rfl h12
def s27_19 (μ : mM) (a0 : Nat) (a1 : Int32) (a2 : Int32) (v3 : Int32) : Option Int32 :=
  if ¬ v3 = a2 then (s27_25 μ a0 a1 a2 0) else (s27_25 μ a0 a1 a2 1)
set_option maxRecDepth 20000 in
theorem t27_19 (μ : mM) (a0 : Nat) (a1 : Int32) (a2 : Int32) (v3 : Int32) (w0 : Value) (hw0 : mNotL w0 = true) (w1 : Value) (hw1 : mNotL w1 = true) (w4 : Value) (hw4 : mNotL w4 = true) {o : Int32} {r : Option Value × mM} (hr : s27_19 μ a0 a1 a2 v3 = some o) (hC : r = (some (.int o), μ)) : mGo mG (27, List.drop 19 mC27, [w0, w1, .int a2, .int v3, w4], [], μ) r := by
  unfold s27_19 at hr
  refine mGo.steps 2 (c' := (27, List.drop 21 mC27, [w0, w1, .int a2, .int v3, w4], [.int a2, .int v3], μ)) rfl ?_
  rcases mIte hr with ⟨h13, hr⟩ | ⟨h13, hr⟩
  · refine gBrT (p := ¬ v3 = a2) (y := 27) (is := List.drop 22 mC27) (L := [w0, w1, .int a2, .int v3, w4]) (st := []) (μ := μ) (t := 44) rfl h13 ?_
    refine mGo.steps 1 (c' := (27, List.drop 25 mC27, [w0, w1, .int a2, .int v3, w4], [.int 0], μ)) rfl ?_
    exact t27_25 μ a0 a1 a2 0 w0 hw0 w1 hw1 (.int a2) rfl (.int v3) rfl w4 hw4 hr hC
  · refine gBrF (p := ¬ v3 = a2) (y := 27) (is := List.drop 22 mC27) (L := [w0, w1, .int a2, .int v3, w4]) (st := []) (μ := μ) (t := 44) rfl h13 ?_
    refine mGo.steps 2 (c' := (27, List.drop 25 mC27, [w0, w1, .int a2, .int v3, w4], [.int 1], μ)) rfl ?_
    exact t27_25 μ a0 a1 a2 1 w0 hw0 w1 hw1 (.int a2) rfl (.int v3) rfl w4 hw4 hr hC
def s27 (μ : mM) (a0 : Nat) (a1 : Int32) (a2 : Int32) : Option Int32 :=
  (mLoop (s27L4 μ a0 a2) 1000 (a1, 0)).bind fun o8 => Sum.elim (fun x9 => s27_19 μ a0 a1 a2 x9) (fun y10 => some y10) o8
set_option maxRecDepth 20000 in
theorem t27 {μ : mM} {a0 : Nat} {a1 : Int32} {a2 : Int32} {o : Int32} (hr : s27 μ a0 a1 a2 = some o) : mEv mG 27 [.ref a0, .int a1, .int a2] μ (some (.int o)) (μ) := by
  obtain ⟨r, hC⟩ : ∃ r : Option Value × mM, r = (some (.int o), μ) := ⟨_, rfl⟩
  show mGo mG (27, List.drop 0 mC27, [.ref a0, .int a1, .int a2, .retAddr 0, .retAddr 0], [], μ) (some (.int o), μ)
  rw [← hC]
  unfold s27 at hr
  refine mGo.steps 4 (c' := (27, List.drop 4 mC27, [.ref a0, .int a1, .int a2, .int a1, .int 0], [], μ)) rfl ?_
  obtain ⟨o8, h11, hr⟩ := mBi hr
  refine t27L4l μ a0 a2 1000 (a1, 0) o8 h11 ?_ (.int a1) rfl
  cases o8 with
  | inl x9 =>
    show ∀ (w0 : Value) (hw0 : mNotL w0 = true) (w1 : Value) (hw1 : mNotL w1 = true) (w4 : Value) (hw4 : mNotL w4 = true), mGo mG (27, List.drop 19 mC27, [w0, w1, .int a2, .int x9, w4], [], μ) r
    intro w0 hw0 w1 hw1 w4 hw4
    replace hr : (_) = some _ := hr
    exact t27_19 μ a0 a1 a2 x9 w0 hw0 w1 hw1 w4 hw4 hr hC
  | inr y10 =>
    obtain rfl := Option.some.inj hr
    exact hC

/-! 28: TunnelFabric$Fabric.countWithin(I)I -/
def s28L4_22 (μ : mM) (p0 : Nat) (p1 : Int32) (v3 : Int32) (t0 : Int32) (t1 : Int32) : Option ((Int32 × Int32) ⊕ ((Int32) ⊕ Int32)) :=
  some (.inl (t1 + t0, v3 + 1))
set_option maxRecDepth 20000 in
theorem t28L4_22 (μ : mM) (p0 : Nat) (p1 : Int32) (v3 : Int32) (t0 : Int32) (t1 : Int32) (w2 : Value) (hw2 : mNotL w2 = true) {o : ((Int32 × Int32) ⊕ ((Int32) ⊕ Int32))} {r : Option Value × mM} (hr : s28L4_22 μ p0 p1 v3 t0 t1 = some o) (hC : Sum.elim (fun s' : Int32 × Int32 => mGo mG (28, List.drop 4 mC28, [.ref p0, .int p1, .int s'.1, .int s'.2], [], μ) r) (Sum.elim (fun x : Int32 => ∀ (w0 : Value) (hw0 : mNotL w0 = true) (w1 : Value) (hw1 : mNotL w1 = true) (w3 : Value) (hw3 : mNotL w3 = true), mGo mG (28, List.drop 26 mC28, [w0, w1, .int x, w3], [], μ) r) (fun y : Int32 => r = (some (.int y), μ))) o) : mGo mG (28, List.drop 22 mC28, [.ref p0, .int p1, w2, .int v3], [.int t0, .int t1], μ) r := by
  unfold s28L4_22 at hr
  refine mGo.steps 4 (c' := (28, List.drop 4 mC28, [.ref p0, .int p1, .int (t1 + t0), .int (v3 + 1)], [], μ)) rfl ?_
  obtain rfl := Option.some.inj hr
  exact hC
def s28L4_21 (μ : mM) (p0 : Nat) (p1 : Int32) (v3 : Int32) (t0 : Int32) : Option ((Int32 × Int32) ⊕ ((Int32) ⊕ Int32)) :=
  s28L4_22 μ p0 p1 v3 0 t0
set_option maxRecDepth 20000 in
theorem t28L4_21 (μ : mM) (p0 : Nat) (p1 : Int32) (v3 : Int32) (t0 : Int32) (w2 : Value) (hw2 : mNotL w2 = true) {o : ((Int32 × Int32) ⊕ ((Int32) ⊕ Int32))} {r : Option Value × mM} (hr : s28L4_21 μ p0 p1 v3 t0 = some o) (hC : Sum.elim (fun s' : Int32 × Int32 => mGo mG (28, List.drop 4 mC28, [.ref p0, .int p1, .int s'.1, .int s'.2], [], μ) r) (Sum.elim (fun x : Int32 => ∀ (w0 : Value) (hw0 : mNotL w0 = true) (w1 : Value) (hw1 : mNotL w1 = true) (w3 : Value) (hw3 : mNotL w3 = true), mGo mG (28, List.drop 26 mC28, [w0, w1, .int x, w3], [], μ) r) (fun y : Int32 => r = (some (.int y), μ))) o) : mGo mG (28, List.drop 21 mC28, [.ref p0, .int p1, w2, .int v3], [.int t0], μ) r := by
  unfold s28L4_21 at hr
  refine mGo.steps 1 (c' := (28, List.drop 22 mC28, [.ref p0, .int p1, w2, .int v3], [.int 0, .int t0], μ)) rfl ?_
  exact t28L4_22 μ p0 p1 v3 0 t0 w2 hw2 hr hC
def s28L4 (μ : mM) (p0 : Nat) (p1 : Int32) (s : Int32 × Int32) : Option ((Int32 × Int32) ⊕ ((Int32) ⊕ Int32)) :=
  if 8 ≤ s.2 then (some (.inr (.inl s.1))) else (if (mS μ p0).1 = 1 then if (mS μ (mP μ p0 0)).1 = 20 + 4 ∧ mInb s.2 (mS μ (mP μ p0 0)).2 then if (mS μ (mP μ (mP μ p0 0) (Int32.toNatClampNeg s.2))).1 = 4 then if (mI μ (mP μ (mP μ p0 0) (Int32.toNatClampNeg s.2)) 0) = 0 then (s28L4_21 μ p0 p1 s.2 s.1) else ((s27 μ p0 s.2 p1).bind fun q4 => if q4 = 0 then (s28L4_21 μ p0 p1 s.2 s.1) else (s28L4_22 μ p0 p1 s.2 1 s.1)) else none else none else none)
set_option maxRecDepth 20000 in
theorem t28L4 (μ : mM) (p0 : Nat) (p1 : Int32) {r : Option Value × mM} (s : Int32 × Int32) (o : ((Int32 × Int32) ⊕ ((Int32) ⊕ Int32))) (hr : s28L4 μ p0 p1 s = some o) (hC : Sum.elim (fun s' : Int32 × Int32 => mGo mG (28, List.drop 4 mC28, [.ref p0, .int p1, .int s'.1, .int s'.2], [], μ) r) (Sum.elim (fun x : Int32 => ∀ (w0 : Value) (hw0 : mNotL w0 = true) (w1 : Value) (hw1 : mNotL w1 = true) (w3 : Value) (hw3 : mNotL w3 = true), mGo mG (28, List.drop 26 mC28, [w0, w1, .int x, w3], [], μ) r) (fun y : Int32 => r = (some (.int y), μ))) o) : mGo mG (28, List.drop 4 mC28, [.ref p0, .int p1, .int s.1, .int s.2], [], μ) r := by
  unfold s28L4 at hr
  refine mGo.steps 2 (c' := (28, List.drop 6 mC28, [.ref p0, .int p1, .int s.1, .int s.2], [.int 8, .int s.2], μ)) rfl ?_
  rcases mIte hr with ⟨h8, hr⟩ | ⟨h8, hr⟩
  · refine gBrT (p := 8 ≤ s.2) (y := 28) (is := List.drop 7 mC28) (L := [.ref p0, .int p1, .int s.1, .int s.2]) (st := []) (μ := μ) (t := 45) rfl h8 ?_
    obtain rfl := Option.some.inj hr
    exact hC (.ref p0) rfl (.int p1) rfl (.int s.2) rfl
  · refine gBrF (p := 8 ≤ s.2) (y := 28) (is := List.drop 7 mC28) (L := [.ref p0, .int p1, .int s.1, .int s.2]) (st := []) (μ := μ) (t := 45) rfl h8 ?_
    refine mGo.steps 2 (c' := (28, List.drop 9 mC28, [.ref p0, .int p1, .int s.1, .int s.2], [.ref p0, .int s.1], μ)) rfl ?_
    obtain ⟨h1, hr⟩ := mIf hr
    refine gGet (is := List.drop 10 mC28) (v := .ref (mP μ p0 0)) h1 rfl ?_
    refine mGo.steps 1 (c' := (28, List.drop 11 mC28, [.ref p0, .int p1, .int s.1, .int s.2], [.int s.2, .ref (mP μ p0 0), .int s.1], μ)) rfl ?_
    obtain ⟨h2, hr⟩ := mIf hr
    refine gAald (is := List.drop 12 mC28) h2 ?_
    obtain ⟨h3, hr⟩ := mIf hr
    refine gGet (is := List.drop 13 mC28) (v := .int (mI μ (mP μ (mP μ p0 0) (Int32.toNatClampNeg s.2)) 0)) h3 rfl ?_
    rcases mIte hr with ⟨h7, hr⟩ | ⟨h7, hr⟩
    · refine gBrT (p := (mI μ (mP μ (mP μ p0 0) (Int32.toNatClampNeg s.2)) 0) = 0) (y := 28) (is := List.drop 14 mC28) (L := [.ref p0, .int p1, .int s.1, .int s.2]) (st := [.int s.1]) (μ := μ) (t := 36) rfl h7 ?_
      exact t28L4_21 μ p0 p1 s.2 s.1 (.int s.1) rfl hr hC
    · refine gBrF (p := (mI μ (mP μ (mP μ p0 0) (Int32.toNatClampNeg s.2)) 0) = 0) (y := 28) (is := List.drop 14 mC28) (L := [.ref p0, .int p1, .int s.1, .int s.2]) (st := [.int s.1]) (μ := μ) (t := 36) rfl h7 ?_
      refine mGo.steps 3 (c' := (28, List.drop 17 mC28, [.ref p0, .int p1, .int s.1, .int s.2], [.int p1, .int s.2, .ref p0, .int s.1], μ)) rfl ?_
      obtain ⟨q4, h5, hr⟩ := mBi hr
      refine gCall (z := 27) (n := 2) (f := 0) (kind := 1) (a := p0) (As := [.int s.2, .int p1]) (y := 28) (is := List.drop 18 mC28) (L := [.ref p0, .int p1, .int s.1, .int s.2]) (rest := [.int s.1]) (μ := μ) rfl (by decide) (by decide) ⟨rfl, rfl⟩ rfl h1 (Nat.le_of_ble_eq_true rfl) (Nat.le_of_ble_eq_true rfl) (t27 h5) ?_
      rcases mIte hr with ⟨h6, hr⟩ | ⟨h6, hr⟩
      · refine gBrT (p := q4 = 0) (y := 28) (is := List.drop 19 mC28) (L := [.ref p0, .int p1, .int s.1, .int s.2]) (st := [.int s.1]) (μ := μ) (t := 36) rfl h6 ?_
        exact t28L4_21 μ p0 p1 s.2 s.1 (.int s.1) rfl hr hC
      · refine gBrF (p := q4 = 0) (y := 28) (is := List.drop 19 mC28) (L := [.ref p0, .int p1, .int s.1, .int s.2]) (st := [.int s.1]) (μ := μ) (t := 36) rfl h6 ?_
        refine mGo.steps 2 (c' := (28, List.drop 22 mC28, [.ref p0, .int p1, .int s.1, .int s.2], [.int 1, .int s.1], μ)) rfl ?_
        exact t28L4_22 μ p0 p1 s.2 1 s.1 (.int s.1) rfl hr hC
theorem t28L4l (μ : mM) (p0 : Nat) (p1 : Int32) {r : Option Value × mM} (n : Nat) (s : Int32 × Int32) (o : (Int32) ⊕ Int32) (hr : mLoop (s28L4 μ p0 p1) n s = some o) (hC : Sum.elim (fun x : Int32 => ∀ (w0 : Value) (hw0 : mNotL w0 = true) (w1 : Value) (hw1 : mNotL w1 = true) (w3 : Value) (hw3 : mNotL w3 = true), mGo mG (28, List.drop 26 mC28, [w0, w1, .int x, w3], [], μ) r) (fun y : Int32 => r = (some (.int y), μ)) o) : mGo mG (28, List.drop 4 mC28, [.ref p0, .int p1, .int s.1, .int s.2], [], μ) r :=
  mLoop_go (Hd := (fun s' : Int32 × Int32 => mGo mG (28, List.drop 4 mC28, [.ref p0, .int p1, .int s'.1, .int s'.2], [], μ) r)) (fun s o hb hC => t28L4 μ p0 p1 s o hb hC) n s o hr hC
def s28 (μ : mM) (a0 : Nat) (a1 : Int32) : Option Int32 :=
  (mLoop (s28L4 μ a0 a1) 1000 (0, 0)).bind fun o9 => Sum.elim (fun x10 => some x10) (fun y11 => some y11) o9
set_option maxRecDepth 20000 in
theorem t28 {μ : mM} {a0 : Nat} {a1 : Int32} {o : Int32} (hr : s28 μ a0 a1 = some o) : mEv mG 28 [.ref a0, .int a1] μ (some (.int o)) (μ) := by
  obtain ⟨r, hC⟩ : ∃ r : Option Value × mM, r = (some (.int o), μ) := ⟨_, rfl⟩
  show mGo mG (28, List.drop 0 mC28, [.ref a0, .int a1, .retAddr 0, .retAddr 0], [], μ) (some (.int o), μ)
  rw [← hC]
  unfold s28 at hr
  refine mGo.steps 4 (c' := (28, List.drop 4 mC28, [.ref a0, .int a1, .int 0, .int 0], [], μ)) rfl ?_
  obtain ⟨o9, h12, hr⟩ := mBi hr
  refine t28L4l μ a0 a1 1000 (0, 0) o9 h12 ?_ 
  cases o9 with
  | inl x10 =>
    show ∀ (w0 : Value) (hw0 : mNotL w0 = true) (w1 : Value) (hw1 : mNotL w1 = true) (w3 : Value) (hw3 : mNotL w3 = true), mGo mG (28, List.drop 26 mC28, [w0, w1, .int x10, w3], [], μ) r
    intro w0 hw0 w1 hw1 w3 hw3
    replace hr : (_) = some _ := hr
    refine mGo.steps 1 (c' := (28, List.drop 27 mC28, [w0, w1, .int x10, w3], [.int x10], μ)) rfl ?_
    obtain rfl := Option.some.inj hr
    rw [show r = _ from hC]
    exact gIret rfl
  | inr y11 =>
    obtain rfl := Option.some.inj hr
    exact hC

/-! 19: TunnelFabric$Fabric.routersPresent()I -/
def s19 (μ : mM) (a0 : Nat) : Option Int32 :=
  if (mS μ a0).1 = 1 then (s28 μ a0 0).bind fun q2 => some q2 else none
set_option maxRecDepth 20000 in
theorem t19 {μ : mM} {a0 : Nat} {o : Int32} (hr : s19 μ a0 = some o) : mEv mG 19 [.ref a0] μ (some (.int o)) (μ) := by
  obtain ⟨r, hC⟩ : ∃ r : Option Value × mM, r = (some (.int o), μ) := ⟨_, rfl⟩
  show mGo mG (19, List.drop 0 mC19, [.ref a0], [], μ) (some (.int o), μ)
  rw [← hC]
  unfold s19 at hr
  refine mGo.steps 2 (c' := (19, List.drop 2 mC19, [.ref a0], [.int 0, .ref a0], μ)) rfl ?_
  obtain ⟨h1, hr⟩ := mIf hr
  obtain ⟨q2, h3, hr⟩ := mBi hr
  refine gCall (z := 28) (n := 1) (f := 0) (kind := 1) (a := a0) (As := [.int 0]) (y := 19) (is := List.drop 3 mC19) (L := [.ref a0]) (rest := []) (μ := μ) rfl (by decide) (by decide) ⟨rfl, rfl⟩ rfl h1 (Nat.le_of_ble_eq_true rfl) (Nat.le_of_ble_eq_true rfl) (t28 h3) ?_
  obtain rfl := Option.some.inj hr
  rw [show r = _ from hC]
  exact gIret rfl

/-! 20: TunnelFabric$Fabric.tunnelsOpen()I -/
def s20L4_17 (μ : mM) (p0 : Nat) (v2 : Int32) (t0 : Int32) (t1 : Int32) : Option ((Int32 × Int32) ⊕ ((Int32) ⊕ Int32)) :=
  some (.inl (t1 + t0, v2 + 1))
set_option maxRecDepth 20000 in
theorem t20L4_17 (μ : mM) (p0 : Nat) (v2 : Int32) (t0 : Int32) (t1 : Int32) (w1 : Value) (hw1 : mNotL w1 = true) {o : ((Int32 × Int32) ⊕ ((Int32) ⊕ Int32))} {r : Option Value × mM} (hr : s20L4_17 μ p0 v2 t0 t1 = some o) (hC : Sum.elim (fun s' : Int32 × Int32 => mGo mG (20, List.drop 4 mC20, [.ref p0, .int s'.1, .int s'.2], [], μ) r) (Sum.elim (fun x : Int32 => ∀ (w0 : Value) (hw0 : mNotL w0 = true) (w2 : Value) (hw2 : mNotL w2 = true), mGo mG (20, List.drop 21 mC20, [w0, .int x, w2], [], μ) r) (fun y : Int32 => r = (some (.int y), μ))) o) : mGo mG (20, List.drop 17 mC20, [.ref p0, w1, .int v2], [.int t0, .int t1], μ) r := by
  unfold s20L4_17 at hr
  refine mGo.steps 4 (c' := (20, List.drop 4 mC20, [.ref p0, .int (t1 + t0), .int (v2 + 1)], [], μ)) rfl ?_
  obtain rfl := Option.some.inj hr
  exact hC
def s20L4 (μ : mM) (p0 : Nat) (s : Int32 × Int32) : Option ((Int32 × Int32) ⊕ ((Int32) ⊕ Int32)) :=
  if 10 ≤ s.2 then (some (.inr (.inl s.1))) else (if (mS μ p0).1 = 1 then if (mS μ (mP μ p0 1)).1 = 20 + 6 ∧ mInb s.2 (mS μ (mP μ p0 1)).2 then if (mS μ (mP μ (mP μ p0 1) (Int32.toNatClampNeg s.2))).1 = 6 then if (mI μ (mP μ (mP μ p0 1) (Int32.toNatClampNeg s.2)) 0) = 0 then (s20L4_17 μ p0 s.2 0 s.1) else (s20L4_17 μ p0 s.2 1 s.1) else none else none else none)
set_option maxRecDepth 20000 in
theorem t20L4 (μ : mM) (p0 : Nat) {r : Option Value × mM} (s : Int32 × Int32) (o : ((Int32 × Int32) ⊕ ((Int32) ⊕ Int32))) (hr : s20L4 μ p0 s = some o) (hC : Sum.elim (fun s' : Int32 × Int32 => mGo mG (20, List.drop 4 mC20, [.ref p0, .int s'.1, .int s'.2], [], μ) r) (Sum.elim (fun x : Int32 => ∀ (w0 : Value) (hw0 : mNotL w0 = true) (w2 : Value) (hw2 : mNotL w2 = true), mGo mG (20, List.drop 21 mC20, [w0, .int x, w2], [], μ) r) (fun y : Int32 => r = (some (.int y), μ))) o) : mGo mG (20, List.drop 4 mC20, [.ref p0, .int s.1, .int s.2], [], μ) r := by
  unfold s20L4 at hr
  refine mGo.steps 2 (c' := (20, List.drop 6 mC20, [.ref p0, .int s.1, .int s.2], [.int 10, .int s.2], μ)) rfl ?_
  rcases mIte hr with ⟨h5, hr⟩ | ⟨h5, hr⟩
  · refine gBrT (p := 10 ≤ s.2) (y := 20) (is := List.drop 7 mC20) (L := [.ref p0, .int s.1, .int s.2]) (st := []) (μ := μ) (t := 36) rfl h5 ?_
    obtain rfl := Option.some.inj hr
    exact hC (.ref p0) rfl (.int s.2) rfl
  · refine gBrF (p := 10 ≤ s.2) (y := 20) (is := List.drop 7 mC20) (L := [.ref p0, .int s.1, .int s.2]) (st := []) (μ := μ) (t := 36) rfl h5 ?_
    refine mGo.steps 2 (c' := (20, List.drop 9 mC20, [.ref p0, .int s.1, .int s.2], [.ref p0, .int s.1], μ)) rfl ?_
    obtain ⟨h1, hr⟩ := mIf hr
    refine gGet (is := List.drop 10 mC20) (v := .ref (mP μ p0 1)) h1 rfl ?_
    refine mGo.steps 1 (c' := (20, List.drop 11 mC20, [.ref p0, .int s.1, .int s.2], [.int s.2, .ref (mP μ p0 1), .int s.1], μ)) rfl ?_
    obtain ⟨h2, hr⟩ := mIf hr
    refine gAald (is := List.drop 12 mC20) h2 ?_
    obtain ⟨h3, hr⟩ := mIf hr
    refine gGet (is := List.drop 13 mC20) (v := .int (mI μ (mP μ (mP μ p0 1) (Int32.toNatClampNeg s.2)) 0)) h3 rfl ?_
    rcases mIte hr with ⟨h4, hr⟩ | ⟨h4, hr⟩
    · refine gBrT (p := (mI μ (mP μ (mP μ p0 1) (Int32.toNatClampNeg s.2)) 0) = 0) (y := 20) (is := List.drop 14 mC20) (L := [.ref p0, .int s.1, .int s.2]) (st := [.int s.1]) (μ := μ) (t := 27) rfl h4 ?_
      refine mGo.steps 1 (c' := (20, List.drop 17 mC20, [.ref p0, .int s.1, .int s.2], [.int 0, .int s.1], μ)) rfl ?_
      exact t20L4_17 μ p0 s.2 0 s.1 (.int s.1) rfl hr hC
    · refine gBrF (p := (mI μ (mP μ (mP μ p0 1) (Int32.toNatClampNeg s.2)) 0) = 0) (y := 20) (is := List.drop 14 mC20) (L := [.ref p0, .int s.1, .int s.2]) (st := [.int s.1]) (μ := μ) (t := 27) rfl h4 ?_
      refine mGo.steps 2 (c' := (20, List.drop 17 mC20, [.ref p0, .int s.1, .int s.2], [.int 1, .int s.1], μ)) rfl ?_
      exact t20L4_17 μ p0 s.2 1 s.1 (.int s.1) rfl hr hC
theorem t20L4l (μ : mM) (p0 : Nat) {r : Option Value × mM} (n : Nat) (s : Int32 × Int32) (o : (Int32) ⊕ Int32) (hr : mLoop (s20L4 μ p0) n s = some o) (hC : Sum.elim (fun x : Int32 => ∀ (w0 : Value) (hw0 : mNotL w0 = true) (w2 : Value) (hw2 : mNotL w2 = true), mGo mG (20, List.drop 21 mC20, [w0, .int x, w2], [], μ) r) (fun y : Int32 => r = (some (.int y), μ)) o) : mGo mG (20, List.drop 4 mC20, [.ref p0, .int s.1, .int s.2], [], μ) r :=
  mLoop_go (Hd := (fun s' : Int32 × Int32 => mGo mG (20, List.drop 4 mC20, [.ref p0, .int s'.1, .int s'.2], [], μ) r)) (fun s o hb hC => t20L4 μ p0 s o hb hC) n s o hr hC
def s20 (μ : mM) (a0 : Nat) : Option Int32 :=
  (mLoop (s20L4 μ a0) 1000 (0, 0)).bind fun o6 => Sum.elim (fun x7 => some x7) (fun y8 => some y8) o6
set_option maxRecDepth 20000 in
theorem t20 {μ : mM} {a0 : Nat} {o : Int32} (hr : s20 μ a0 = some o) : mEv mG 20 [.ref a0] μ (some (.int o)) (μ) := by
  obtain ⟨r, hC⟩ : ∃ r : Option Value × mM, r = (some (.int o), μ) := ⟨_, rfl⟩
  show mGo mG (20, List.drop 0 mC20, [.ref a0, .retAddr 0, .retAddr 0], [], μ) (some (.int o), μ)
  rw [← hC]
  unfold s20 at hr
  refine mGo.steps 4 (c' := (20, List.drop 4 mC20, [.ref a0, .int 0, .int 0], [], μ)) rfl ?_
  obtain ⟨o6, h9, hr⟩ := mBi hr
  refine t20L4l μ a0 1000 (0, 0) o6 h9 ?_ 
  cases o6 with
  | inl x7 =>
    show ∀ (w0 : Value) (hw0 : mNotL w0 = true) (w2 : Value) (hw2 : mNotL w2 = true), mGo mG (20, List.drop 21 mC20, [w0, .int x7, w2], [], μ) r
    intro w0 hw0 w2 hw2
    replace hr : (_) = some _ := hr
    refine mGo.steps 1 (c' := (20, List.drop 22 mC20, [w0, .int x7, w2], [.int x7], μ)) rfl ?_
    obtain rfl := Option.some.inj hr
    rw [show r = _ from hC]
    exact gIret rfl
  | inr y8 =>
    obtain rfl := Option.some.inj hr
    exact hC

/-! 21: TunnelFabric$Fabric.linksAsleep()I -/
def s21L4_25 (μ : mM) (p0 : Nat) (v2 : Int32) (t0 : Int32) (t1 : Int32) : Option ((Int32 × Int32) ⊕ ((Int32) ⊕ Int32)) :=
  some (.inl (t1 + t0, v2 + 1))
set_option maxRecDepth 20000 in
theorem t21L4_25 (μ : mM) (p0 : Nat) (v2 : Int32) (t0 : Int32) (t1 : Int32) (w1 : Value) (hw1 : mNotL w1 = true) {o : ((Int32 × Int32) ⊕ ((Int32) ⊕ Int32))} {r : Option Value × mM} (hr : s21L4_25 μ p0 v2 t0 t1 = some o) (hC : Sum.elim (fun s' : Int32 × Int32 => mGo mG (21, List.drop 4 mC21, [.ref p0, .int s'.1, .int s'.2], [], μ) r) (Sum.elim (fun x : Int32 => ∀ (w0 : Value) (hw0 : mNotL w0 = true) (w2 : Value) (hw2 : mNotL w2 = true), mGo mG (21, List.drop 29 mC21, [w0, .int x, w2], [], μ) r) (fun y : Int32 => r = (some (.int y), μ))) o) : mGo mG (21, List.drop 25 mC21, [.ref p0, w1, .int v2], [.int t0, .int t1], μ) r := by
  unfold s21L4_25 at hr
  refine mGo.steps 4 (c' := (21, List.drop 4 mC21, [.ref p0, .int (t1 + t0), .int (v2 + 1)], [], μ)) rfl ?_
  obtain rfl := Option.some.inj hr
  exact hC
def s21L4_24 (μ : mM) (p0 : Nat) (v2 : Int32) (t0 : Int32) : Option ((Int32 × Int32) ⊕ ((Int32) ⊕ Int32)) :=
  s21L4_25 μ p0 v2 0 t0
set_option maxRecDepth 20000 in
theorem t21L4_24 (μ : mM) (p0 : Nat) (v2 : Int32) (t0 : Int32) (w1 : Value) (hw1 : mNotL w1 = true) {o : ((Int32 × Int32) ⊕ ((Int32) ⊕ Int32))} {r : Option Value × mM} (hr : s21L4_24 μ p0 v2 t0 = some o) (hC : Sum.elim (fun s' : Int32 × Int32 => mGo mG (21, List.drop 4 mC21, [.ref p0, .int s'.1, .int s'.2], [], μ) r) (Sum.elim (fun x : Int32 => ∀ (w0 : Value) (hw0 : mNotL w0 = true) (w2 : Value) (hw2 : mNotL w2 = true), mGo mG (21, List.drop 29 mC21, [w0, .int x, w2], [], μ) r) (fun y : Int32 => r = (some (.int y), μ))) o) : mGo mG (21, List.drop 24 mC21, [.ref p0, w1, .int v2], [.int t0], μ) r := by
  unfold s21L4_24 at hr
  refine mGo.steps 1 (c' := (21, List.drop 25 mC21, [.ref p0, w1, .int v2], [.int 0, .int t0], μ)) rfl ?_
  exact t21L4_25 μ p0 v2 0 t0 w1 hw1 hr hC
def s21L4 (μ : mM) (p0 : Nat) (s : Int32 × Int32) : Option ((Int32 × Int32) ⊕ ((Int32) ⊕ Int32)) :=
  if 8 ≤ s.2 then (some (.inr (.inl s.1))) else (if (mS μ p0).1 = 1 then if (mS μ (mP μ p0 0)).1 = 20 + 4 ∧ mInb s.2 (mS μ (mP μ p0 0)).2 then if (mS μ (mP μ (mP μ p0 0) (Int32.toNatClampNeg s.2))).1 = 4 then if (mI μ (mP μ (mP μ p0 0) (Int32.toNatClampNeg s.2)) 0) = 0 then (s21L4_24 μ p0 s.2 s.1) else (if (mS μ (mP μ (mP μ (mP μ p0 0) (Int32.toNatClampNeg s.2)) 6)).1 = 2 then if ¬ (mI μ (mP μ (mP μ (mP μ p0 0) (Int32.toNatClampNeg s.2)) 6) 2) = 2 then (s21L4_24 μ p0 s.2 s.1) else (s21L4_25 μ p0 s.2 1 s.1) else none) else none else none else none)
set_option maxRecDepth 20000 in
theorem t21L4 (μ : mM) (p0 : Nat) {r : Option Value × mM} (s : Int32 × Int32) (o : ((Int32 × Int32) ⊕ ((Int32) ⊕ Int32))) (hr : s21L4 μ p0 s = some o) (hC : Sum.elim (fun s' : Int32 × Int32 => mGo mG (21, List.drop 4 mC21, [.ref p0, .int s'.1, .int s'.2], [], μ) r) (Sum.elim (fun x : Int32 => ∀ (w0 : Value) (hw0 : mNotL w0 = true) (w2 : Value) (hw2 : mNotL w2 = true), mGo mG (21, List.drop 29 mC21, [w0, .int x, w2], [], μ) r) (fun y : Int32 => r = (some (.int y), μ))) o) : mGo mG (21, List.drop 4 mC21, [.ref p0, .int s.1, .int s.2], [], μ) r := by
  unfold s21L4 at hr
  refine mGo.steps 2 (c' := (21, List.drop 6 mC21, [.ref p0, .int s.1, .int s.2], [.int 8, .int s.2], μ)) rfl ?_
  rcases mIte hr with ⟨h7, hr⟩ | ⟨h7, hr⟩
  · refine gBrT (p := 8 ≤ s.2) (y := 21) (is := List.drop 7 mC21) (L := [.ref p0, .int s.1, .int s.2]) (st := []) (μ := μ) (t := 52) rfl h7 ?_
    obtain rfl := Option.some.inj hr
    exact hC (.ref p0) rfl (.int s.2) rfl
  · refine gBrF (p := 8 ≤ s.2) (y := 21) (is := List.drop 7 mC21) (L := [.ref p0, .int s.1, .int s.2]) (st := []) (μ := μ) (t := 52) rfl h7 ?_
    refine mGo.steps 2 (c' := (21, List.drop 9 mC21, [.ref p0, .int s.1, .int s.2], [.ref p0, .int s.1], μ)) rfl ?_
    obtain ⟨h1, hr⟩ := mIf hr
    refine gGet (is := List.drop 10 mC21) (v := .ref (mP μ p0 0)) h1 rfl ?_
    refine mGo.steps 1 (c' := (21, List.drop 11 mC21, [.ref p0, .int s.1, .int s.2], [.int s.2, .ref (mP μ p0 0), .int s.1], μ)) rfl ?_
    obtain ⟨h2, hr⟩ := mIf hr
    refine gAald (is := List.drop 12 mC21) h2 ?_
    obtain ⟨h3, hr⟩ := mIf hr
    refine gGet (is := List.drop 13 mC21) (v := .int (mI μ (mP μ (mP μ p0 0) (Int32.toNatClampNeg s.2)) 0)) h3 rfl ?_
    rcases mIte hr with ⟨h6, hr⟩ | ⟨h6, hr⟩
    · refine gBrT (p := (mI μ (mP μ (mP μ p0 0) (Int32.toNatClampNeg s.2)) 0) = 0) (y := 21) (is := List.drop 14 mC21) (L := [.ref p0, .int s.1, .int s.2]) (st := [.int s.1]) (μ := μ) (t := 43) rfl h6 ?_
      exact t21L4_24 μ p0 s.2 s.1 (.int s.1) rfl hr hC
    · refine gBrF (p := (mI μ (mP μ (mP μ p0 0) (Int32.toNatClampNeg s.2)) 0) = 0) (y := 21) (is := List.drop 14 mC21) (L := [.ref p0, .int s.1, .int s.2]) (st := [.int s.1]) (μ := μ) (t := 43) rfl h6 ?_
      refine mGo.steps 1 (c' := (21, List.drop 15 mC21, [.ref p0, .int s.1, .int s.2], [.ref p0, .int s.1], μ)) rfl ?_
      refine gGet (is := List.drop 16 mC21) (v := .ref (mP μ p0 0)) h1 rfl ?_
      refine mGo.steps 1 (c' := (21, List.drop 17 mC21, [.ref p0, .int s.1, .int s.2], [.int s.2, .ref (mP μ p0 0), .int s.1], μ)) rfl ?_
      refine gAald (is := List.drop 18 mC21) h2 ?_
      refine gGet (is := List.drop 19 mC21) (v := .ref (mP μ (mP μ (mP μ p0 0) (Int32.toNatClampNeg s.2)) 6)) h3 rfl ?_
      obtain ⟨h4, hr⟩ := mIf hr
      refine gGet (is := List.drop 20 mC21) (v := .int (mI μ (mP μ (mP μ (mP μ p0 0) (Int32.toNatClampNeg s.2)) 6) 2)) h4 rfl ?_
      refine mGo.steps 1 (c' := (21, List.drop 21 mC21, [.ref p0, .int s.1, .int s.2], [.int 2, .int (mI μ (mP μ (mP μ (mP μ p0 0) (Int32.toNatClampNeg s.2)) 6) 2), .int s.1], μ)) rfl ?_
      rcases mIte hr with ⟨h5, hr⟩ | ⟨h5, hr⟩
      · refine gBrT (p := ¬ (mI μ (mP μ (mP μ (mP μ p0 0) (Int32.toNatClampNeg s.2)) 6) 2) = 2) (y := 21) (is := List.drop 22 mC21) (L := [.ref p0, .int s.1, .int s.2]) (st := [.int s.1]) (μ := μ) (t := 43) rfl h5 ?_
        exact t21L4_24 μ p0 s.2 s.1 (.int s.1) rfl hr hC
      · refine gBrF (p := ¬ (mI μ (mP μ (mP μ (mP μ p0 0) (Int32.toNatClampNeg s.2)) 6) 2) = 2) (y := 21) (is := List.drop 22 mC21) (L := [.ref p0, .int s.1, .int s.2]) (st := [.int s.1]) (μ := μ) (t := 43) rfl h5 ?_
        refine mGo.steps 2 (c' := (21, List.drop 25 mC21, [.ref p0, .int s.1, .int s.2], [.int 1, .int s.1], μ)) rfl ?_
        exact t21L4_25 μ p0 s.2 1 s.1 (.int s.1) rfl hr hC
theorem t21L4l (μ : mM) (p0 : Nat) {r : Option Value × mM} (n : Nat) (s : Int32 × Int32) (o : (Int32) ⊕ Int32) (hr : mLoop (s21L4 μ p0) n s = some o) (hC : Sum.elim (fun x : Int32 => ∀ (w0 : Value) (hw0 : mNotL w0 = true) (w2 : Value) (hw2 : mNotL w2 = true), mGo mG (21, List.drop 29 mC21, [w0, .int x, w2], [], μ) r) (fun y : Int32 => r = (some (.int y), μ)) o) : mGo mG (21, List.drop 4 mC21, [.ref p0, .int s.1, .int s.2], [], μ) r :=
  mLoop_go (Hd := (fun s' : Int32 × Int32 => mGo mG (21, List.drop 4 mC21, [.ref p0, .int s'.1, .int s'.2], [], μ) r)) (fun s o hb hC => t21L4 μ p0 s o hb hC) n s o hr hC
def s21 (μ : mM) (a0 : Nat) : Option Int32 :=
  (mLoop (s21L4 μ a0) 1000 (0, 1)).bind fun o8 => Sum.elim (fun x9 => some x9) (fun y10 => some y10) o8
set_option maxRecDepth 20000 in
theorem t21 {μ : mM} {a0 : Nat} {o : Int32} (hr : s21 μ a0 = some o) : mEv mG 21 [.ref a0] μ (some (.int o)) (μ) := by
  obtain ⟨r, hC⟩ : ∃ r : Option Value × mM, r = (some (.int o), μ) := ⟨_, rfl⟩
  show mGo mG (21, List.drop 0 mC21, [.ref a0, .retAddr 0, .retAddr 0], [], μ) (some (.int o), μ)
  rw [← hC]
  unfold s21 at hr
  refine mGo.steps 4 (c' := (21, List.drop 4 mC21, [.ref a0, .int 0, .int 1], [], μ)) rfl ?_
  obtain ⟨o8, h11, hr⟩ := mBi hr
  refine t21L4l μ a0 1000 (0, 1) o8 h11 ?_ 
  cases o8 with
  | inl x9 =>
    show ∀ (w0 : Value) (hw0 : mNotL w0 = true) (w2 : Value) (hw2 : mNotL w2 = true), mGo mG (21, List.drop 29 mC21, [w0, .int x9, w2], [], μ) r
    intro w0 hw0 w2 hw2
    replace hr : (_) = some _ := hr
    refine mGo.steps 1 (c' := (21, List.drop 30 mC21, [w0, .int x9, w2], [.int x9], μ)) rfl ?_
    obtain rfl := Option.some.inj hr
    rw [show r = _ from hC]
    exact gIret rfl
  | inr y10 =>
    obtain rfl := Option.some.inj hr
    exact hC

/-! 22: TunnelFabric$Fabric.leastAbsent()I -/
def s22L2 (μ : mM) (p0 : Nat) (s : Int32) : Option ((Int32) ⊕ ((Unit) ⊕ Int32)) :=
  if 8 ≤ s then (some (.inr (.inl ()))) else (if (mS μ p0).1 = 1 then if (mS μ (mP μ p0 0)).1 = 20 + 4 ∧ mInb s (mS μ (mP μ p0 0)).2 then if (mS μ (mP μ (mP μ p0 0) (Int32.toNatClampNeg s))).1 = 4 then if ¬ (mI μ (mP μ (mP μ p0 0) (Int32.toNatClampNeg s)) 0) = 0 then (some (.inl (s + 1))) else (some (.inr (.inr s))) else none else none else none)
set_option maxRecDepth 20000 in
theorem t22L2 (μ : mM) (p0 : Nat) {r : Option Value × mM} (s : Int32) (o : ((Int32) ⊕ ((Unit) ⊕ Int32))) (hr : s22L2 μ p0 s = some o) (hC : Sum.elim (fun s' : Int32 => mGo mG (22, List.drop 2 mC22, [.ref p0, .int s'], [], μ) r) (Sum.elim (fun x : Unit => ∀ (w0 : Value) (hw0 : mNotL w0 = true) (w1 : Value) (hw1 : mNotL w1 = true), mGo mG (22, List.drop 15 mC22, [w0, w1], [], μ) r) (fun y : Int32 => r = (some (.int y), μ))) o) : mGo mG (22, List.drop 2 mC22, [.ref p0, .int s], [], μ) r := by
  unfold s22L2 at hr
  refine mGo.steps 2 (c' := (22, List.drop 4 mC22, [.ref p0, .int s], [.int 8, .int s], μ)) rfl ?_
  rcases mIte hr with ⟨h5, hr⟩ | ⟨h5, hr⟩
  · refine gBrT (p := 8 ≤ s) (y := 22) (is := List.drop 5 mC22) (L := [.ref p0, .int s]) (st := []) (μ := μ) (t := 28) rfl h5 ?_
    obtain rfl := Option.some.inj hr
    exact hC (.ref p0) rfl (.int s) rfl
  · refine gBrF (p := 8 ≤ s) (y := 22) (is := List.drop 5 mC22) (L := [.ref p0, .int s]) (st := []) (μ := μ) (t := 28) rfl h5 ?_
    refine mGo.steps 1 (c' := (22, List.drop 6 mC22, [.ref p0, .int s], [.ref p0], μ)) rfl ?_
    obtain ⟨h1, hr⟩ := mIf hr
    refine gGet (is := List.drop 7 mC22) (v := .ref (mP μ p0 0)) h1 rfl ?_
    refine mGo.steps 1 (c' := (22, List.drop 8 mC22, [.ref p0, .int s], [.int s, .ref (mP μ p0 0)], μ)) rfl ?_
    obtain ⟨h2, hr⟩ := mIf hr
    refine gAald (is := List.drop 9 mC22) h2 ?_
    obtain ⟨h3, hr⟩ := mIf hr
    refine gGet (is := List.drop 10 mC22) (v := .int (mI μ (mP μ (mP μ p0 0) (Int32.toNatClampNeg s)) 0)) h3 rfl ?_
    rcases mIte hr with ⟨h4, hr⟩ | ⟨h4, hr⟩
    · refine gBrT (p := ¬ (mI μ (mP μ (mP μ p0 0) (Int32.toNatClampNeg s)) 0) = 0) (y := 22) (is := List.drop 11 mC22) (L := [.ref p0, .int s]) (st := []) (μ := μ) (t := 22) rfl h4 ?_
      refine mGo.steps 2 (c' := (22, List.drop 2 mC22, [.ref p0, .int (s + 1)], [], μ)) rfl ?_
      obtain rfl := Option.some.inj hr
      exact hC
    · refine gBrF (p := ¬ (mI μ (mP μ (mP μ p0 0) (Int32.toNatClampNeg s)) 0) = 0) (y := 22) (is := List.drop 11 mC22) (L := [.ref p0, .int s]) (st := []) (μ := μ) (t := 22) rfl h4 ?_
      refine mGo.steps 1 (c' := (22, List.drop 12 mC22, [.ref p0, .int s], [.int s], μ)) rfl ?_
      obtain rfl := Option.some.inj hr
      rw [show r = _ from hC]
      exact gIret rfl
theorem t22L2l (μ : mM) (p0 : Nat) {r : Option Value × mM} (n : Nat) (s : Int32) (o : (Unit) ⊕ Int32) (hr : mLoop (s22L2 μ p0) n s = some o) (hC : Sum.elim (fun x : Unit => ∀ (w0 : Value) (hw0 : mNotL w0 = true) (w1 : Value) (hw1 : mNotL w1 = true), mGo mG (22, List.drop 15 mC22, [w0, w1], [], μ) r) (fun y : Int32 => r = (some (.int y), μ)) o) : mGo mG (22, List.drop 2 mC22, [.ref p0, .int s], [], μ) r :=
  mLoop_go (Hd := (fun s' : Int32 => mGo mG (22, List.drop 2 mC22, [.ref p0, .int s'], [], μ) r)) (fun s o hb hC => t22L2 μ p0 s o hb hC) n s o hr hC
def s22 (μ : mM) (a0 : Nat) : Option Int32 :=
  (mLoop (s22L2 μ a0) 1000 1).bind fun o6 => Sum.elim (fun x7 => some (-1)) (fun y8 => some y8) o6
set_option maxRecDepth 20000 in
theorem t22 {μ : mM} {a0 : Nat} {o : Int32} (hr : s22 μ a0 = some o) : mEv mG 22 [.ref a0] μ (some (.int o)) (μ) := by
  obtain ⟨r, hC⟩ : ∃ r : Option Value × mM, r = (some (.int o), μ) := ⟨_, rfl⟩
  show mGo mG (22, List.drop 0 mC22, [.ref a0, .retAddr 0], [], μ) (some (.int o), μ)
  rw [← hC]
  unfold s22 at hr
  refine mGo.steps 2 (c' := (22, List.drop 2 mC22, [.ref a0, .int 1], [], μ)) rfl ?_
  obtain ⟨o6, h9, hr⟩ := mBi hr
  refine t22L2l μ a0 1000 1 o6 h9 ?_ 
  cases o6 with
  | inl x7 =>
    show ∀ (w0 : Value) (hw0 : mNotL w0 = true) (w1 : Value) (hw1 : mNotL w1 = true), mGo mG (22, List.drop 15 mC22, [w0, w1], [], μ) r
    intro w0 hw0 w1 hw1
    replace hr : (_) = some _ := hr
    refine mGo.steps 1 (c' := (22, List.drop 16 mC22, [w0, w1], [.int (-1)], μ)) rfl ?_
    obtain rfl := Option.some.inj hr
    rw [show r = _ from hC]
    exact gIret rfl
  | inr y8 =>
    obtain rfl := Option.some.inj hr
    exact hC

/-! 23: TunnelFabric$Fabric.routerIn(II)I -/
def s23L2_27 (μ : mM) (p0 : Nat) (p1 : Int32) (p2 : Int32) (v3 : Int32) : Option ((Int32) ⊕ ((Unit) ⊕ Int32)) :=
  some (.inl (v3 + 1))
set_option maxRecDepth 20000 in
theorem t23L2_27 (μ : mM) (p0 : Nat) (p1 : Int32) (p2 : Int32) (v3 : Int32) {o : ((Int32) ⊕ ((Unit) ⊕ Int32))} {r : Option Value × mM} (hr : s23L2_27 μ p0 p1 p2 v3 = some o) (hC : Sum.elim (fun s' : Int32 => mGo mG (23, List.drop 2 mC23, [.ref p0, .int p1, .int p2, .int s'], [], μ) r) (Sum.elim (fun x : Unit => ∀ (w0 : Value) (hw0 : mNotL w0 = true) (w1 : Value) (hw1 : mNotL w1 = true) (w2 : Value) (hw2 : mNotL w2 = true) (w3 : Value) (hw3 : mNotL w3 = true), mGo mG (23, List.drop 29 mC23, [w0, w1, w2, w3], [], μ) r) (fun y : Int32 => r = (some (.int y), μ))) o) : mGo mG (23, List.drop 27 mC23, [.ref p0, .int p1, .int p2, .int v3], [], μ) r := by
  unfold s23L2_27 at hr
  refine mGo.steps 2 (c' := (23, List.drop 2 mC23, [.ref p0, .int p1, .int p2, .int (v3 + 1)], [], μ)) rfl ?_
  obtain rfl := Option.some.inj hr
  exact hC
def s23L2 (μ : mM) (p0 : Nat) (p1 : Int32) (p2 : Int32) (s : Int32) : Option ((Int32) ⊕ ((Unit) ⊕ Int32)) :=
  if 8 ≤ s then (some (.inr (.inl ()))) else (if (mS μ p0).1 = 1 then if (mS μ (mP μ p0 0)).1 = 20 + 4 ∧ mInb s (mS μ (mP μ p0 0)).2 then if (mS μ (mP μ (mP μ p0 0) (Int32.toNatClampNeg s))).1 = 4 then if (mI μ (mP μ (mP μ p0 0) (Int32.toNatClampNeg s)) 0) = 0 then (s23L2_27 μ p0 p1 p2 s) else (if ¬ (mI μ (mP μ (mP μ p0 0) (Int32.toNatClampNeg s)) 3) = p1 then (s23L2_27 μ p0 p1 p2 s) else (if ¬ (mI μ (mP μ (mP μ p0 0) (Int32.toNatClampNeg s)) 4) = p2 then (s23L2_27 μ p0 p1 p2 s) else (some (.inr (.inr s))))) else none else none else none)
set_option maxRecDepth 20000 in
theorem t23L2 (μ : mM) (p0 : Nat) (p1 : Int32) (p2 : Int32) {r : Option Value × mM} (s : Int32) (o : ((Int32) ⊕ ((Unit) ⊕ Int32))) (hr : s23L2 μ p0 p1 p2 s = some o) (hC : Sum.elim (fun s' : Int32 => mGo mG (23, List.drop 2 mC23, [.ref p0, .int p1, .int p2, .int s'], [], μ) r) (Sum.elim (fun x : Unit => ∀ (w0 : Value) (hw0 : mNotL w0 = true) (w1 : Value) (hw1 : mNotL w1 = true) (w2 : Value) (hw2 : mNotL w2 = true) (w3 : Value) (hw3 : mNotL w3 = true), mGo mG (23, List.drop 29 mC23, [w0, w1, w2, w3], [], μ) r) (fun y : Int32 => r = (some (.int y), μ))) o) : mGo mG (23, List.drop 2 mC23, [.ref p0, .int p1, .int p2, .int s], [], μ) r := by
  unfold s23L2 at hr
  refine mGo.steps 2 (c' := (23, List.drop 4 mC23, [.ref p0, .int p1, .int p2, .int s], [.int 8, .int s], μ)) rfl ?_
  rcases mIte hr with ⟨h7, hr⟩ | ⟨h7, hr⟩
  · refine gBrT (p := 8 ≤ s) (y := 23) (is := List.drop 5 mC23) (L := [.ref p0, .int p1, .int p2, .int s]) (st := []) (μ := μ) (t := 54) rfl h7 ?_
    obtain rfl := Option.some.inj hr
    exact hC (.ref p0) rfl (.int p1) rfl (.int p2) rfl (.int s) rfl
  · refine gBrF (p := 8 ≤ s) (y := 23) (is := List.drop 5 mC23) (L := [.ref p0, .int p1, .int p2, .int s]) (st := []) (μ := μ) (t := 54) rfl h7 ?_
    refine mGo.steps 1 (c' := (23, List.drop 6 mC23, [.ref p0, .int p1, .int p2, .int s], [.ref p0], μ)) rfl ?_
    obtain ⟨h1, hr⟩ := mIf hr
    refine gGet (is := List.drop 7 mC23) (v := .ref (mP μ p0 0)) h1 rfl ?_
    refine mGo.steps 1 (c' := (23, List.drop 8 mC23, [.ref p0, .int p1, .int p2, .int s], [.int s, .ref (mP μ p0 0)], μ)) rfl ?_
    obtain ⟨h2, hr⟩ := mIf hr
    refine gAald (is := List.drop 9 mC23) h2 ?_
    obtain ⟨h3, hr⟩ := mIf hr
    refine gGet (is := List.drop 10 mC23) (v := .int (mI μ (mP μ (mP μ p0 0) (Int32.toNatClampNeg s)) 0)) h3 rfl ?_
    rcases mIte hr with ⟨h6, hr⟩ | ⟨h6, hr⟩
    · refine gBrT (p := (mI μ (mP μ (mP μ p0 0) (Int32.toNatClampNeg s)) 0) = 0) (y := 23) (is := List.drop 11 mC23) (L := [.ref p0, .int p1, .int p2, .int s]) (st := []) (μ := μ) (t := 48) rfl h6 ?_
      exact t23L2_27 μ p0 p1 p2 s hr hC
    · refine gBrF (p := (mI μ (mP μ (mP μ p0 0) (Int32.toNatClampNeg s)) 0) = 0) (y := 23) (is := List.drop 11 mC23) (L := [.ref p0, .int p1, .int p2, .int s]) (st := []) (μ := μ) (t := 48) rfl h6 ?_
      refine mGo.steps 1 (c' := (23, List.drop 12 mC23, [.ref p0, .int p1, .int p2, .int s], [.ref p0], μ)) rfl ?_
      refine gGet (is := List.drop 13 mC23) (v := .ref (mP μ p0 0)) h1 rfl ?_
      refine mGo.steps 1 (c' := (23, List.drop 14 mC23, [.ref p0, .int p1, .int p2, .int s], [.int s, .ref (mP μ p0 0)], μ)) rfl ?_
      refine gAald (is := List.drop 15 mC23) h2 ?_
      refine gGet (is := List.drop 16 mC23) (v := .int (mI μ (mP μ (mP μ p0 0) (Int32.toNatClampNeg s)) 3)) h3 rfl ?_
      refine mGo.steps 1 (c' := (23, List.drop 17 mC23, [.ref p0, .int p1, .int p2, .int s], [.int p1, .int (mI μ (mP μ (mP μ p0 0) (Int32.toNatClampNeg s)) 3)], μ)) rfl ?_
      rcases mIte hr with ⟨h5, hr⟩ | ⟨h5, hr⟩
      · refine gBrT (p := ¬ (mI μ (mP μ (mP μ p0 0) (Int32.toNatClampNeg s)) 3) = p1) (y := 23) (is := List.drop 18 mC23) (L := [.ref p0, .int p1, .int p2, .int s]) (st := []) (μ := μ) (t := 48) rfl h5 ?_
        exact t23L2_27 μ p0 p1 p2 s hr hC
      · refine gBrF (p := ¬ (mI μ (mP μ (mP μ p0 0) (Int32.toNatClampNeg s)) 3) = p1) (y := 23) (is := List.drop 18 mC23) (L := [.ref p0, .int p1, .int p2, .int s]) (st := []) (μ := μ) (t := 48) rfl h5 ?_
        refine mGo.steps 1 (c' := (23, List.drop 19 mC23, [.ref p0, .int p1, .int p2, .int s], [.ref p0], μ)) rfl ?_
        refine gGet (is := List.drop 20 mC23) (v := .ref (mP μ p0 0)) h1 rfl ?_
        refine mGo.steps 1 (c' := (23, List.drop 21 mC23, [.ref p0, .int p1, .int p2, .int s], [.int s, .ref (mP μ p0 0)], μ)) rfl ?_
        refine gAald (is := List.drop 22 mC23) h2 ?_
        refine gGet (is := List.drop 23 mC23) (v := .int (mI μ (mP μ (mP μ p0 0) (Int32.toNatClampNeg s)) 4)) h3 rfl ?_
        refine mGo.steps 1 (c' := (23, List.drop 24 mC23, [.ref p0, .int p1, .int p2, .int s], [.int p2, .int (mI μ (mP μ (mP μ p0 0) (Int32.toNatClampNeg s)) 4)], μ)) rfl ?_
        rcases mIte hr with ⟨h4, hr⟩ | ⟨h4, hr⟩
        · refine gBrT (p := ¬ (mI μ (mP μ (mP μ p0 0) (Int32.toNatClampNeg s)) 4) = p2) (y := 23) (is := List.drop 25 mC23) (L := [.ref p0, .int p1, .int p2, .int s]) (st := []) (μ := μ) (t := 48) rfl h4 ?_
          exact t23L2_27 μ p0 p1 p2 s hr hC
        · refine gBrF (p := ¬ (mI μ (mP μ (mP μ p0 0) (Int32.toNatClampNeg s)) 4) = p2) (y := 23) (is := List.drop 25 mC23) (L := [.ref p0, .int p1, .int p2, .int s]) (st := []) (μ := μ) (t := 48) rfl h4 ?_
          refine mGo.steps 1 (c' := (23, List.drop 26 mC23, [.ref p0, .int p1, .int p2, .int s], [.int s], μ)) rfl ?_
          obtain rfl := Option.some.inj hr
          rw [show r = _ from hC]
          exact gIret rfl
theorem t23L2l (μ : mM) (p0 : Nat) (p1 : Int32) (p2 : Int32) {r : Option Value × mM} (n : Nat) (s : Int32) (o : (Unit) ⊕ Int32) (hr : mLoop (s23L2 μ p0 p1 p2) n s = some o) (hC : Sum.elim (fun x : Unit => ∀ (w0 : Value) (hw0 : mNotL w0 = true) (w1 : Value) (hw1 : mNotL w1 = true) (w2 : Value) (hw2 : mNotL w2 = true) (w3 : Value) (hw3 : mNotL w3 = true), mGo mG (23, List.drop 29 mC23, [w0, w1, w2, w3], [], μ) r) (fun y : Int32 => r = (some (.int y), μ)) o) : mGo mG (23, List.drop 2 mC23, [.ref p0, .int p1, .int p2, .int s], [], μ) r :=
  mLoop_go (Hd := (fun s' : Int32 => mGo mG (23, List.drop 2 mC23, [.ref p0, .int p1, .int p2, .int s'], [], μ) r)) (fun s o hb hC => t23L2 μ p0 p1 p2 s o hb hC) n s o hr hC
def s23 (μ : mM) (a0 : Nat) (a1 : Int32) (a2 : Int32) : Option Int32 :=
  (mLoop (s23L2 μ a0 a1 a2) 1000 1).bind fun o8 => Sum.elim (fun x9 => some (-1)) (fun y10 => some y10) o8
set_option maxRecDepth 20000 in
theorem t23 {μ : mM} {a0 : Nat} {a1 : Int32} {a2 : Int32} {o : Int32} (hr : s23 μ a0 a1 a2 = some o) : mEv mG 23 [.ref a0, .int a1, .int a2] μ (some (.int o)) (μ) := by
  obtain ⟨r, hC⟩ : ∃ r : Option Value × mM, r = (some (.int o), μ) := ⟨_, rfl⟩
  show mGo mG (23, List.drop 0 mC23, [.ref a0, .int a1, .int a2, .retAddr 0], [], μ) (some (.int o), μ)
  rw [← hC]
  unfold s23 at hr
  refine mGo.steps 2 (c' := (23, List.drop 2 mC23, [.ref a0, .int a1, .int a2, .int 1], [], μ)) rfl ?_
  obtain ⟨o8, h11, hr⟩ := mBi hr
  refine t23L2l μ a0 a1 a2 1000 1 o8 h11 ?_ 
  cases o8 with
  | inl x9 =>
    show ∀ (w0 : Value) (hw0 : mNotL w0 = true) (w1 : Value) (hw1 : mNotL w1 = true) (w2 : Value) (hw2 : mNotL w2 = true) (w3 : Value) (hw3 : mNotL w3 = true), mGo mG (23, List.drop 29 mC23, [w0, w1, w2, w3], [], μ) r
    intro w0 hw0 w1 hw1 w2 hw2 w3 hw3
    replace hr : (_) = some _ := hr
    refine mGo.steps 1 (c' := (23, List.drop 30 mC23, [w0, w1, w2, w3], [.int (-1)], μ)) rfl ?_
    obtain rfl := Option.some.inj hr
    rw [show r = _ from hC]
    exact gIret rfl
  | inr y10 =>
    obtain rfl := Option.some.inj hr
    exact hC
