/-! 0: TunnelFabric$Clock.<init>()V -/
def s0 (μ : mM) (a0 : Nat) : Option mM :=
  if ¬ a0 = 0 then (some (mNew μ 10 (Int32.toNatClampNeg 10))).bind fun μ2 => if (mS μ2 a0).1 = 0 then (some (mUP μ2 a0 0 (mNx μ))).bind fun μ4 => some μ4 else none else none
set_option maxRecDepth 20000 in
theorem t0 {μ : mM} {a0 : Nat} {o : mM} (hr : s0 μ a0 = some o) : mEv mG 0 [.ref a0] μ (none) (o) := by
  obtain ⟨r, hC⟩ : ∃ r : Option Value × mM, r = (none, o) := ⟨_, rfl⟩
  show mGo mG (0, List.drop 0 mC0, [.ref a0], [], μ) (none, o)
  rw [← hC]
  unfold s0 at hr
  refine mGo.steps 1 (c' := (0, List.drop 1 mC0, [.ref a0], [.ref a0], μ)) rfl ?_
  obtain ⟨h1, hr⟩ := mIf hr
  refine gObj (is := List.drop 2 mC0) h1 (Nat.le_of_ble_eq_true rfl) ?_
  refine mGo.steps 2 (c' := (0, List.drop 4 mC0, [.ref a0], [.int 10, .ref a0], μ)) rfl ?_
  replace hr := mBs hr
  refine mGo.steps 1 (c' := (0, List.drop 5 mC0, [.ref a0], [.ref (mNx μ), .ref a0], (mNew μ 10 (Int32.toNatClampNeg 10)))) rfl ?_
  let μ2 : mM := mNew μ 10 (Int32.toNatClampNeg 10)
  obtain ⟨h3, hr⟩ := mIf hr
  replace hr := mBs hr
  refine gPut (is := List.drop 6 mC0) (μ' := mUP μ2 a0 0 (mNx μ)) h3 rfl ?_
  let μ4 : mM := mUP μ2 a0 0 (mNx μ)
  obtain rfl := Option.some.inj hr
  rw [show r = _ from hC]
  exact gVret rfl

/-! 78: TunnelFabric$Tunnel.way(I)LTunnelFabric$Way; -/
def s78_7 (μ : mM) (a0 : Nat) (a1 : Int32) (t0 : Nat) : Option Nat :=
  some t0
set_option maxRecDepth 20000 in
theorem t78_7 (μ : mM) (a0 : Nat) (a1 : Int32) (t0 : Nat) (w0 : Value) (hw0 : mNotL w0 = true) (w1 : Value) (hw1 : mNotL w1 = true) {o : Nat} {r : Option Value × mM} (hr : s78_7 μ a0 a1 t0 = some o) (hC : r = (some (.ref o), μ)) : mGo mG (78, List.drop 7 mC78, [w0, w1], [.ref t0], μ) r := by
  unfold s78_7 at hr
  obtain rfl := Option.some.inj hr
  rw [show r = _ from hC]
  exact gAret rfl
def s78 (μ : mM) (a0 : Nat) (a1 : Int32) : Option Nat :=
  if ¬ a1 = 0 then (if (mS μ a0).1 = 6 then s78_7 μ a0 a1 (mP μ a0 7) else none) else (if (mS μ a0).1 = 6 then s78_7 μ a0 a1 (mP μ a0 6) else none)
set_option maxRecDepth 20000 in
theorem t78 {μ : mM} {a0 : Nat} {a1 : Int32} {o : Nat} (hr : s78 μ a0 a1 = some o) : mEv mG 78 [.ref a0, .int a1] μ (some (.ref o)) (μ) := by
  obtain ⟨r, hC⟩ : ∃ r : Option Value × mM, r = (some (.ref o), μ) := ⟨_, rfl⟩
  show mGo mG (78, List.drop 0 mC78, [.ref a0, .int a1], [], μ) (some (.ref o), μ)
  rw [← hC]
  unfold s78 at hr
  refine mGo.steps 1 (c' := (78, List.drop 1 mC78, [.ref a0, .int a1], [.int a1], μ)) rfl ?_
  rcases mIte hr with ⟨h3, hr⟩ | ⟨h3, hr⟩
  · refine gBrT (p := ¬ a1 = 0) (y := 78) (is := List.drop 2 mC78) (L := [.ref a0, .int a1]) (st := []) (μ := μ) (t := 11) rfl h3 ?_
    refine mGo.steps 1 (c' := (78, List.drop 6 mC78, [.ref a0, .int a1], [.ref a0], μ)) rfl ?_
    obtain ⟨h1, hr⟩ := mIf hr
    refine gGet (is := List.drop 7 mC78) (v := .ref (mP μ a0 7)) h1 rfl ?_
    exact t78_7 μ a0 a1 (mP μ a0 7) (.ref a0) rfl (.int a1) rfl hr hC
  · refine gBrF (p := ¬ a1 = 0) (y := 78) (is := List.drop 2 mC78) (L := [.ref a0, .int a1]) (st := []) (μ := μ) (t := 11) rfl h3 ?_
    refine mGo.steps 1 (c' := (78, List.drop 3 mC78, [.ref a0, .int a1], [.ref a0], μ)) rfl ?_
    obtain ⟨h2, hr⟩ := mIf hr
    refine gGet (is := List.drop 4 mC78) (v := .ref (mP μ a0 6)) h2 rfl ?_
    refine mGo.steps 1 (c' := (78, List.drop 7 mC78, [.ref a0, .int a1], [.ref (mP μ a0 6)], μ)) rfl ?_
    exact t78_7 μ a0 a1 (mP μ a0 6) (.ref a0) rfl (.int a1) rfl hr hC

/-! 90: TunnelFabric$Way.hopOver(I)I -/
def s90L2_18 (μ : mM) (p0 : Nat) (p1 : Int32) (t0 : Int32) : Option ((Int32) ⊕ ((Unit) ⊕ Int32)) :=
  some (.inr (.inr t0))
set_option maxRecDepth 20000 in
theorem t90L2_18 (μ : mM) (p0 : Nat) (p1 : Int32) (t0 : Int32) (w0 : Value) (hw0 : mNotL w0 = true) (w1 : Value) (hw1 : mNotL w1 = true) (w2 : Value) (hw2 : mNotL w2 = true) {o : ((Int32) ⊕ ((Unit) ⊕ Int32))} {r : Option Value × mM} (hr : s90L2_18 μ p0 p1 t0 = some o) (hC : Sum.elim (fun s' : Int32 => mGo mG (90, List.drop 2 mC90, [.ref p0, .int p1, .int s'], [], μ) r) (Sum.elim (fun x : Unit => ∀ (w0 : Value) (hw0 : mNotL w0 = true) (w1 : Value) (hw1 : mNotL w1 = true) (w2 : Value) (hw2 : mNotL w2 = true), mGo mG (90, List.drop 21 mC90, [w0, w1, w2], [], μ) r) (fun y : Int32 => r = (some (.int y), μ))) o) : mGo mG (90, List.drop 18 mC90, [w0, w1, w2], [.int t0], μ) r := by
  unfold s90L2_18 at hr
  obtain rfl := Option.some.inj hr
  rw [show r = _ from hC]
  exact gIret rfl
def s90L2 (μ : mM) (p0 : Nat) (p1 : Int32) (s : Int32) : Option ((Int32) ⊕ ((Unit) ⊕ Int32)) :=
  if (mS μ p0).1 = 7 then if (mI μ p0 1) ≤ s then (some (.inr (.inl ()))) else (if (mS μ (mP μ p0 4)).1 = 10 ∧ mInb s (mS μ (mP μ p0 4)).2 then if ¬ (mI μ (mP μ p0 4) (Int32.toNatClampNeg s)) = p1 then (some (.inl (s + 1))) else (if (mI μ p0 0) = 0 then (s90L2_18 μ p0 p1 (-1)) else (s90L2_18 μ p0 p1 s)) else none) else none
set_option maxRecDepth 20000 in
theorem t90L2 (μ : mM) (p0 : Nat) (p1 : Int32) {r : Option Value × mM} (s : Int32) (o : ((Int32) ⊕ ((Unit) ⊕ Int32))) (hr : s90L2 μ p0 p1 s = some o) (hC : Sum.elim (fun s' : Int32 => mGo mG (90, List.drop 2 mC90, [.ref p0, .int p1, .int s'], [], μ) r) (Sum.elim (fun x : Unit => ∀ (w0 : Value) (hw0 : mNotL w0 = true) (w1 : Value) (hw1 : mNotL w1 = true) (w2 : Value) (hw2 : mNotL w2 = true), mGo mG (90, List.drop 21 mC90, [w0, w1, w2], [], μ) r) (fun y : Int32 => r = (some (.int y), μ))) o) : mGo mG (90, List.drop 2 mC90, [.ref p0, .int p1, .int s], [], μ) r := by
  unfold s90L2 at hr
  refine mGo.steps 2 (c' := (90, List.drop 4 mC90, [.ref p0, .int p1, .int s], [.ref p0, .int s], μ)) rfl ?_
  obtain ⟨h1, hr⟩ := mIf hr
  refine gGet (is := List.drop 5 mC90) (v := .int (mI μ p0 1)) h1 rfl ?_
  rcases mIte hr with ⟨h5, hr⟩ | ⟨h5, hr⟩
  · refine gBrT (p := (mI μ p0 1) ≤ s) (y := 90) (is := List.drop 6 mC90) (L := [.ref p0, .int p1, .int s]) (st := []) (μ := μ) (t := 39) rfl h5 ?_
    obtain rfl := Option.some.inj hr
    exact hC (.ref p0) rfl (.int p1) rfl (.int s) rfl
  · refine gBrF (p := (mI μ p0 1) ≤ s) (y := 90) (is := List.drop 6 mC90) (L := [.ref p0, .int p1, .int s]) (st := []) (μ := μ) (t := 39) rfl h5 ?_
    refine mGo.steps 1 (c' := (90, List.drop 7 mC90, [.ref p0, .int p1, .int s], [.ref p0], μ)) rfl ?_
    refine gGet (is := List.drop 8 mC90) (v := .ref (mP μ p0 4)) h1 rfl ?_
    refine mGo.steps 1 (c' := (90, List.drop 9 mC90, [.ref p0, .int p1, .int s], [.int s, .ref (mP μ p0 4)], μ)) rfl ?_
    obtain ⟨h2, hr⟩ := mIf hr
    refine gIald (is := List.drop 10 mC90) h2 ?_
    refine mGo.steps 1 (c' := (90, List.drop 11 mC90, [.ref p0, .int p1, .int s], [.int p1, .int (mI μ (mP μ p0 4) (Int32.toNatClampNeg s))], μ)) rfl ?_
    rcases mIte hr with ⟨h4, hr⟩ | ⟨h4, hr⟩
    · refine gBrT (p := ¬ (mI μ (mP μ p0 4) (Int32.toNatClampNeg s)) = p1) (y := 90) (is := List.drop 12 mC90) (L := [.ref p0, .int p1, .int s]) (st := []) (μ := μ) (t := 33) rfl h4 ?_
      refine mGo.steps 2 (c' := (90, List.drop 2 mC90, [.ref p0, .int p1, .int (s + 1)], [], μ)) rfl ?_
      obtain rfl := Option.some.inj hr
      exact hC
    · refine gBrF (p := ¬ (mI μ (mP μ p0 4) (Int32.toNatClampNeg s)) = p1) (y := 90) (is := List.drop 12 mC90) (L := [.ref p0, .int p1, .int s]) (st := []) (μ := μ) (t := 33) rfl h4 ?_
      refine mGo.steps 1 (c' := (90, List.drop 13 mC90, [.ref p0, .int p1, .int s], [.ref p0], μ)) rfl ?_
      refine gGet (is := List.drop 14 mC90) (v := .int (mI μ p0 0)) h1 rfl ?_
      rcases mIte hr with ⟨h3, hr⟩ | ⟨h3, hr⟩
      · refine gBrT (p := (mI μ p0 0) = 0) (y := 90) (is := List.drop 15 mC90) (L := [.ref p0, .int p1, .int s]) (st := []) (μ := μ) (t := 31) rfl h3 ?_
        refine mGo.steps 1 (c' := (90, List.drop 18 mC90, [.ref p0, .int p1, .int s], [.int (-1)], μ)) rfl ?_
        exact t90L2_18 μ p0 p1 (-1) (.ref p0) rfl (.int p1) rfl (.int s) rfl hr hC
      · refine gBrF (p := (mI μ p0 0) = 0) (y := 90) (is := List.drop 15 mC90) (L := [.ref p0, .int p1, .int s]) (st := []) (μ := μ) (t := 31) rfl h3 ?_
        refine mGo.steps 2 (c' := (90, List.drop 18 mC90, [.ref p0, .int p1, .int s], [.int s], μ)) rfl ?_
        exact t90L2_18 μ p0 p1 s (.ref p0) rfl (.int p1) rfl (.int s) rfl hr hC
theorem t90L2l (μ : mM) (p0 : Nat) (p1 : Int32) {r : Option Value × mM} (n : Nat) (s : Int32) (o : (Unit) ⊕ Int32) (hr : mLoop (s90L2 μ p0 p1) n s = some o) (hC : Sum.elim (fun x : Unit => ∀ (w0 : Value) (hw0 : mNotL w0 = true) (w1 : Value) (hw1 : mNotL w1 = true) (w2 : Value) (hw2 : mNotL w2 = true), mGo mG (90, List.drop 21 mC90, [w0, w1, w2], [], μ) r) (fun y : Int32 => r = (some (.int y), μ)) o) : mGo mG (90, List.drop 2 mC90, [.ref p0, .int p1, .int s], [], μ) r :=
  mLoop_go (Hd := (fun s' : Int32 => mGo mG (90, List.drop 2 mC90, [.ref p0, .int p1, .int s'], [], μ) r)) (fun s o hb hC => t90L2 μ p0 p1 s o hb hC) n s o hr hC
def s90 (μ : mM) (a0 : Nat) (a1 : Int32) : Option Int32 :=
  (mLoop (s90L2 μ a0 a1) 1000 0).bind fun o6 => Sum.elim (fun x7 => some (-1)) (fun y8 => some y8) o6
set_option maxRecDepth 20000 in
theorem t90 {μ : mM} {a0 : Nat} {a1 : Int32} {o : Int32} (hr : s90 μ a0 a1 = some o) : mEv mG 90 [.ref a0, .int a1] μ (some (.int o)) (μ) := by
  obtain ⟨r, hC⟩ : ∃ r : Option Value × mM, r = (some (.int o), μ) := ⟨_, rfl⟩
  show mGo mG (90, List.drop 0 mC90, [.ref a0, .int a1, .retAddr 0], [], μ) (some (.int o), μ)
  rw [← hC]
  unfold s90 at hr
  refine mGo.steps 2 (c' := (90, List.drop 2 mC90, [.ref a0, .int a1, .int 0], [], μ)) rfl ?_
  obtain ⟨o6, h9, hr⟩ := mBi hr
  refine t90L2l μ a0 a1 1000 0 o6 h9 ?_ 
  cases o6 with
  | inl x7 =>
    show ∀ (w0 : Value) (hw0 : mNotL w0 = true) (w1 : Value) (hw1 : mNotL w1 = true) (w2 : Value) (hw2 : mNotL w2 = true), mGo mG (90, List.drop 21 mC90, [w0, w1, w2], [], μ) r
    intro w0 hw0 w1 hw1 w2 hw2
    replace hr : (_) = some _ := hr
    refine mGo.steps 1 (c' := (90, List.drop 22 mC90, [w0, w1, w2], [.int (-1)], μ)) rfl ?_
    obtain rfl := Option.some.inj hr
    rw [show r = _ from hC]
    exact gIret rfl
  | inr y8 =>
    obtain rfl := Option.some.inj hr
    exact hC

/-! 91: TunnelFabric$Way.cellsBefore(I)I -/
def s91_15 (μ : mM) (a0 : Nat) (a1 : Int32) (t0 : Int32) : Option Int32 :=
  some t0
set_option maxRecDepth 20000 in
theorem t91_15 (μ : mM) (a0 : Nat) (a1 : Int32) (t0 : Int32) (w0 : Value) (hw0 : mNotL w0 = true) (w1 : Value) (hw1 : mNotL w1 = true) {o : Int32} {r : Option Value × mM} (hr : s91_15 μ a0 a1 t0 = some o) (hC : r = (some (.int o), μ)) : mGo mG (91, List.drop 15 mC91, [w0, w1], [.int t0], μ) r := by
  unfold s91_15 at hr
  obtain rfl := Option.some.inj hr
  rw [show r = _ from hC]
  exact gIret rfl
def s91_13 (μ : mM) (a0 : Nat) (a1 : Int32) : Option Int32 :=
  if (mS μ a0).1 = 7 then s91_15 μ a0 a1 (mI μ a0 2) else none
set_option maxRecDepth 20000 in
theorem t91_13 (μ : mM) (a0 : Nat) (a1 : Int32) (w1 : Value) (hw1 : mNotL w1 = true) {o : Int32} {r : Option Value × mM} (hr : s91_13 μ a0 a1 = some o) (hC : r = (some (.int o), μ)) : mGo mG (91, List.drop 13 mC91, [.ref a0, w1], [], μ) r := by
  unfold s91_13 at hr
  refine mGo.steps 1 (c' := (91, List.drop 14 mC91, [.ref a0, w1], [.ref a0], μ)) rfl ?_
  obtain ⟨h1, hr⟩ := mIf hr
  refine gGet (is := List.drop 15 mC91) (v := .int (mI μ a0 2)) h1 rfl ?_
  exact t91_15 μ a0 a1 (mI μ a0 2) (.ref a0) rfl w1 hw1 hr hC
def s91 (μ : mM) (a0 : Nat) (a1 : Int32) : Option Int32 :=
  if a1 < 1 then (s91_13 μ a0 a1) else (if 4 < a1 then (s91_13 μ a0 a1) else (if (mS μ a0).1 = 7 then if (mS μ (mP μ a0 7)).1 = 10 ∧ mInb (a1 - 1) (mS μ (mP μ a0 7)).2 then s91_15 μ a0 a1 (mI μ (mP μ a0 7) (Int32.toNatClampNeg (a1 - 1))) else none else none))
set_option maxRecDepth 20000 in
theorem t91 {μ : mM} {a0 : Nat} {a1 : Int32} {o : Int32} (hr : s91 μ a0 a1 = some o) : mEv mG 91 [.ref a0, .int a1] μ (some (.int o)) (μ) := by
  obtain ⟨r, hC⟩ : ∃ r : Option Value × mM, r = (some (.int o), μ) := ⟨_, rfl⟩
  show mGo mG (91, List.drop 0 mC91, [.ref a0, .int a1], [], μ) (some (.int o), μ)
  rw [← hC]
  unfold s91 at hr
  refine mGo.steps 2 (c' := (91, List.drop 2 mC91, [.ref a0, .int a1], [.int 1, .int a1], μ)) rfl ?_
  rcases mIte hr with ⟨h5, hr⟩ | ⟨h5, hr⟩
  · refine gBrT (p := a1 < 1) (y := 91) (is := List.drop 3 mC91) (L := [.ref a0, .int a1]) (st := []) (μ := μ) (t := 21) rfl h5 ?_
    exact t91_13 μ a0 a1 (.int a1) rfl hr hC
  · refine gBrF (p := a1 < 1) (y := 91) (is := List.drop 3 mC91) (L := [.ref a0, .int a1]) (st := []) (μ := μ) (t := 21) rfl h5 ?_
    refine mGo.steps 2 (c' := (91, List.drop 5 mC91, [.ref a0, .int a1], [.int 4, .int a1], μ)) rfl ?_
    rcases mIte hr with ⟨h4, hr⟩ | ⟨h4, hr⟩
    · refine gBrT (p := 4 < a1) (y := 91) (is := List.drop 6 mC91) (L := [.ref a0, .int a1]) (st := []) (μ := μ) (t := 21) rfl h4 ?_
      exact t91_13 μ a0 a1 (.int a1) rfl hr hC
    · refine gBrF (p := 4 < a1) (y := 91) (is := List.drop 6 mC91) (L := [.ref a0, .int a1]) (st := []) (μ := μ) (t := 21) rfl h4 ?_
      refine mGo.steps 1 (c' := (91, List.drop 7 mC91, [.ref a0, .int a1], [.ref a0], μ)) rfl ?_
      obtain ⟨h2, hr⟩ := mIf hr
      refine gGet (is := List.drop 8 mC91) (v := .ref (mP μ a0 7)) h2 rfl ?_
      refine mGo.steps 3 (c' := (91, List.drop 11 mC91, [.ref a0, .int a1], [.int (a1 - 1), .ref (mP μ a0 7)], μ)) rfl ?_
      obtain ⟨h3, hr⟩ := mIf hr
      refine gIald (is := List.drop 12 mC91) h3 ?_
      refine mGo.steps 1 (c' := (91, List.drop 15 mC91, [.ref a0, .int a1], [.int (mI μ (mP μ a0 7) (Int32.toNatClampNeg (a1 - 1)))], μ)) rfl ?_
      exact t91_15 μ a0 a1 (mI μ (mP μ a0 7) (Int32.toNatClampNeg (a1 - 1))) (.ref a0) rfl (.int a1) rfl hr hC

/-! 83: TunnelFabric$Tunnel.waitsFor(II)Z -/
def s83_23 (μ : mM) (a0 : Nat) (a1 : Int32) (a2 : Int32) (t0 : Int32) : Option Int32 :=
  if t0 = 0 ∨ t0 = 1 then some t0 else none
set_option maxRecDepth 20000 in
theorem t83_23 (μ : mM) (a0 : Nat) (a1 : Int32) (a2 : Int32) (t0 : Int32) (w0 : Value) (hw0 : mNotL w0 = true) (w1 : Value) (hw1 : mNotL w1 = true) (w2 : Value) (hw2 : mNotL w2 = true) (w3 : Value) (hw3 : mNotL w3 = true) (w4 : Value) (hw4 : mNotL w4 = true) {o : Int32} {r : Option Value × mM} (hr : s83_23 μ a0 a1 a2 t0 = some o) (hC : r = (some (.int o), μ)) : mGo mG (83, List.drop 23 mC83, [w0, w1, w2, w3, w4], [.int t0], μ) r := by
  unfold s83_23 at hr
  obtain ⟨h4, hr⟩ := mIf hr
  obtain rfl := Option.some.inj hr
  rw [show r = _ from hC]
  exact gZret rfl h4
def s83_22 (μ : mM) (a0 : Nat) (a1 : Int32) (a2 : Int32) : Option Int32 :=
  s83_23 μ a0 a1 a2 0
set_option maxRecDepth 20000 in
theorem t83_22 (μ : mM) (a0 : Nat) (a1 : Int32) (a2 : Int32) (w0 : Value) (hw0 : mNotL w0 = true) (w1 : Value) (hw1 : mNotL w1 = true) (w2 : Value) (hw2 : mNotL w2 = true) (w3 : Value) (hw3 : mNotL w3 = true) (w4 : Value) (hw4 : mNotL w4 = true) {o : Int32} {r : Option Value × mM} (hr : s83_22 μ a0 a1 a2 = some o) (hC : r = (some (.int o), μ)) : mGo mG (83, List.drop 22 mC83, [w0, w1, w2, w3, w4], [], μ) r := by
  unfold s83_22 at hr
  refine mGo.steps 1 (c' := (83, List.drop 23 mC83, [w0, w1, w2, w3, w4], [.int 0], μ)) rfl ?_
  exact t83_23 μ a0 a1 a2 0 w0 hw0 w1 hw1 w2 hw2 w3 hw3 w4 hw4 hr hC
def s83_12 (μ : mM) (a0 : Nat) (a1 : Int32) (a2 : Int32) (v3 : Nat) (t0 : Int32) : Option Int32 :=
  if t0 = (-1) then (s83_22 μ a0 a1 a2) else (if (mS μ v3).1 = 7 then (s91 μ v3 t0).bind fun q6 => if q6 ≤ 0 then (s83_22 μ a0 a1 a2) else (s83_23 μ a0 a1 a2 1) else none)
set_option maxRecDepth 20000 in
theorem t83_12 (μ : mM) (a0 : Nat) (a1 : Int32) (a2 : Int32) (v3 : Nat) (t0 : Int32) (w0 : Value) (hw0 : mNotL w0 = true) (w1 : Value) (hw1 : mNotL w1 = true) (w2 : Value) (hw2 : mNotL w2 = true) (w4 : Value) (hw4 : mNotL w4 = true) {o : Int32} {r : Option Value × mM} (hr : s83_12 μ a0 a1 a2 v3 t0 = some o) (hC : r = (some (.int o), μ)) : mGo mG (83, List.drop 12 mC83, [w0, w1, w2, .ref v3, w4], [.int t0], μ) r := by
  unfold s83_12 at hr
  refine mGo.steps 3 (c' := (83, List.drop 15 mC83, [w0, w1, w2, .ref v3, .int t0], [.int (-1), .int t0], μ)) rfl ?_
  rcases mIte hr with ⟨h9, hr⟩ | ⟨h9, hr⟩
  · refine gBrT (p := t0 = (-1)) (y := 83) (is := List.drop 16 mC83) (L := [w0, w1, w2, .ref v3, .int t0]) (st := []) (μ := μ) (t := 43) rfl h9 ?_
    exact t83_22 μ a0 a1 a2 w0 hw0 w1 hw1 w2 hw2 (.ref v3) rfl (.int t0) rfl hr hC
  · refine gBrF (p := t0 = (-1)) (y := 83) (is := List.drop 16 mC83) (L := [w0, w1, w2, .ref v3, .int t0]) (st := []) (μ := μ) (t := 43) rfl h9 ?_
    refine mGo.steps 2 (c' := (83, List.drop 18 mC83, [w0, w1, w2, .ref v3, .int t0], [.int t0, .ref v3], μ)) rfl ?_
    obtain ⟨h5, hr⟩ := mIf hr
    obtain ⟨q6, h7, hr⟩ := mBi hr
    refine gCall (z := 91) (n := 1) (f := 0) (kind := 1) (a := v3) (As := [.int t0]) (y := 83) (is := List.drop 19 mC83) (L := [w0, w1, w2, .ref v3, .int t0]) (rest := []) (μ := μ) rfl (by decide) (by decide) ⟨rfl, rfl⟩ rfl h5 (Nat.le_of_ble_eq_true rfl) (Nat.le_of_ble_eq_true rfl) (t91 h7) ?_
    rcases mIte hr with ⟨h8, hr⟩ | ⟨h8, hr⟩
    · refine gBrT (p := q6 ≤ 0) (y := 83) (is := List.drop 20 mC83) (L := [w0, w1, w2, .ref v3, .int t0]) (st := []) (μ := μ) (t := 43) rfl h8 ?_
      exact t83_22 μ a0 a1 a2 w0 hw0 w1 hw1 w2 hw2 (.ref v3) rfl (.int t0) rfl hr hC
    · refine gBrF (p := q6 ≤ 0) (y := 83) (is := List.drop 20 mC83) (L := [w0, w1, w2, .ref v3, .int t0]) (st := []) (μ := μ) (t := 43) rfl h8 ?_
      refine mGo.steps 2 (c' := (83, List.drop 23 mC83, [w0, w1, w2, .ref v3, .int t0], [.int 1], μ)) rfl ?_
      exact t83_23 μ a0 a1 a2 1 w0 hw0 w1 hw1 w2 hw2 (.ref v3) rfl (.int t0) rfl hr hC
def s83 (μ : mM) (a0 : Nat) (a1 : Int32) (a2 : Int32) : Option Int32 :=
  if (mS μ a0).1 = 6 then (s78 μ a0 a2).bind fun q2 => if (mI μ a0 0) = 0 then (s83_12 μ a0 a1 a2 q2 (-1)) else (if (mS μ q2).1 = 7 then (s90 μ q2 a1).bind fun q11 => s83_12 μ a0 a1 a2 q2 q11 else none) else none
set_option maxRecDepth 20000 in
theorem t83 {μ : mM} {a0 : Nat} {a1 : Int32} {a2 : Int32} {o : Int32} (hr : s83 μ a0 a1 a2 = some o) : mEv mG 83 [.ref a0, .int a1, .int a2] μ (some (.int o)) (μ) := by
  obtain ⟨r, hC⟩ : ∃ r : Option Value × mM, r = (some (.int o), μ) := ⟨_, rfl⟩
  show mGo mG (83, List.drop 0 mC83, [.ref a0, .int a1, .int a2, .retAddr 0, .retAddr 0], [], μ) (some (.int o), μ)
  rw [← hC]
  unfold s83 at hr
  refine mGo.steps 2 (c' := (83, List.drop 2 mC83, [.ref a0, .int a1, .int a2, .retAddr 0, .retAddr 0], [.int a2, .ref a0], μ)) rfl ?_
  obtain ⟨h1, hr⟩ := mIf hr
  obtain ⟨q2, h3, hr⟩ := mBi hr
  refine gCall (z := 78) (n := 1) (f := 0) (kind := 1) (a := a0) (As := [.int a2]) (y := 83) (is := List.drop 3 mC83) (L := [.ref a0, .int a1, .int a2, .retAddr 0, .retAddr 0]) (rest := []) (μ := μ) rfl (by decide) (by decide) ⟨rfl, rfl⟩ rfl h1 (Nat.le_of_ble_eq_true rfl) (Nat.le_of_ble_eq_true rfl) (t78 h3) ?_
  refine mGo.steps 2 (c' := (83, List.drop 5 mC83, [.ref a0, .int a1, .int a2, .ref q2, .retAddr 0], [.ref a0], μ)) rfl ?_
  refine gGet (is := List.drop 6 mC83) (v := .int (mI μ a0 0)) h1 rfl ?_
  rcases mIte hr with ⟨h13, hr⟩ | ⟨h13, hr⟩
  · refine gBrT (p := (mI μ a0 0) = 0) (y := 83) (is := List.drop 7 mC83) (L := [.ref a0, .int a1, .int a2, .ref q2, .retAddr 0]) (st := []) (μ := μ) (t := 21) rfl h13 ?_
    refine mGo.steps 1 (c' := (83, List.drop 12 mC83, [.ref a0, .int a1, .int a2, .ref q2, .retAddr 0], [.int (-1)], μ)) rfl ?_
    exact t83_12 μ a0 a1 a2 q2 (-1) (.ref a0) rfl (.int a1) rfl (.int a2) rfl (.retAddr 0) rfl hr hC
  · refine gBrF (p := (mI μ a0 0) = 0) (y := 83) (is := List.drop 7 mC83) (L := [.ref a0, .int a1, .int a2, .ref q2, .retAddr 0]) (st := []) (μ := μ) (t := 21) rfl h13 ?_
    refine mGo.steps 2 (c' := (83, List.drop 9 mC83, [.ref a0, .int a1, .int a2, .ref q2, .retAddr 0], [.int a1, .ref q2], μ)) rfl ?_
    obtain ⟨h10, hr⟩ := mIf hr
    obtain ⟨q11, h12, hr⟩ := mBi hr
    refine gCall (z := 90) (n := 1) (f := 0) (kind := 1) (a := q2) (As := [.int a1]) (y := 83) (is := List.drop 10 mC83) (L := [.ref a0, .int a1, .int a2, .ref q2, .retAddr 0]) (rest := []) (μ := μ) rfl (by decide) (by decide) ⟨rfl, rfl⟩ rfl h10 (Nat.le_of_ble_eq_true rfl) (Nat.le_of_ble_eq_true rfl) (t90 h12) ?_
    refine mGo.steps 1 (c' := (83, List.drop 12 mC83, [.ref a0, .int a1, .int a2, .ref q2, .retAddr 0], [.int q11], μ)) rfl ?_
    exact t83_12 μ a0 a1 a2 q2 q11 (.ref a0) rfl (.int a1) rfl (.int a2) rfl (.retAddr 0) rfl hr hC

/-! 3: TunnelFabric$Clock.isAwaited(LTunnelFabric$Fabric;I)Z -/
def s3L2_21 (μ : mM) (p1 : Nat) (p2 : Int32) : Option ((Int32) ⊕ ((Unit) ⊕ Int32)) :=
  some (.inr (.inr 1))
set_option maxRecDepth 20000 in
theorem t3L2_21 (μ : mM) (p1 : Nat) (p2 : Int32) (w0 : Value) (hw0 : mNotL w0 = true) (w1 : Value) (hw1 : mNotL w1 = true) (w2 : Value) (hw2 : mNotL w2 = true) (w3 : Value) (hw3 : mNotL w3 = true) {o : ((Int32) ⊕ ((Unit) ⊕ Int32))} {r : Option Value × mM} (hr : s3L2_21 μ p1 p2 = some o) (hC : Sum.elim (fun s' : Int32 => ∀ (w0 : Value) (hw0 : mNotL w0 = true), mGo mG (3, List.drop 2 mC3, [w0, .ref p1, .int p2, .int s'], [], μ) r) (Sum.elim (fun x : Unit => ∀ (w0 : Value) (hw0 : mNotL w0 = true) (w1 : Value) (hw1 : mNotL w1 = true) (w2 : Value) (hw2 : mNotL w2 = true) (w3 : Value) (hw3 : mNotL w3 = true), mGo mG (3, List.drop 25 mC3, [w0, w1, w2, w3], [], μ) r) (fun y : Int32 => r = (some (.int y), μ))) o) : mGo mG (3, List.drop 21 mC3, [w0, w1, w2, w3], [], μ) r := by
  unfold s3L2_21 at hr
  refine mGo.steps 1 (c' := (3, List.drop 22 mC3, [w0, w1, w2, w3], [.int 1], μ)) rfl ?_
  obtain rfl := Option.some.inj hr
  rw [show r = _ from hC]
  exact gZret rfl (by decide)
def s3L2 (μ : mM) (p1 : Nat) (p2 : Int32) (s : Int32) : Option ((Int32) ⊕ ((Unit) ⊕ Int32)) :=
  if 10 ≤ s then (some (.inr (.inl ()))) else (if (mS μ p1).1 = 1 then if (mS μ (mP μ p1 1)).1 = 20 + 6 ∧ mInb s (mS μ (mP μ p1 1)).2 then if (mS μ (mP μ (mP μ p1 1) (Int32.toNatClampNeg s))).1 = 6 then (s83 μ (mP μ (mP μ p1 1) (Int32.toNatClampNeg s)) p2 0).bind fun q4 => if ¬ q4 = 0 then (s3L2_21 μ p1 p2) else ((s83 μ (mP μ (mP μ p1 1) (Int32.toNatClampNeg s)) p2 1).bind fun q6 => if q6 = 0 then (some (.inl (s + 1))) else (s3L2_21 μ p1 p2)) else none else none else none)
set_option maxRecDepth 20000 in
theorem t3L2 (μ : mM) (p1 : Nat) (p2 : Int32) {r : Option Value × mM} (s : Int32) (o : ((Int32) ⊕ ((Unit) ⊕ Int32))) (hr : s3L2 μ p1 p2 s = some o) (hC : Sum.elim (fun s' : Int32 => ∀ (w0 : Value) (hw0 : mNotL w0 = true), mGo mG (3, List.drop 2 mC3, [w0, .ref p1, .int p2, .int s'], [], μ) r) (Sum.elim (fun x : Unit => ∀ (w0 : Value) (hw0 : mNotL w0 = true) (w1 : Value) (hw1 : mNotL w1 = true) (w2 : Value) (hw2 : mNotL w2 = true) (w3 : Value) (hw3 : mNotL w3 = true), mGo mG (3, List.drop 25 mC3, [w0, w1, w2, w3], [], μ) r) (fun y : Int32 => r = (some (.int y), μ))) o) : ∀ (w0 : Value) (hw0 : mNotL w0 = true), mGo mG (3, List.drop 2 mC3, [w0, .ref p1, .int p2, .int s], [], μ) r := by
  intro w0 hw0
  unfold s3L2 at hr
  refine mGo.steps 2 (c' := (3, List.drop 4 mC3, [w0, .ref p1, .int p2, .int s], [.int 10, .int s], μ)) rfl ?_
  rcases mIte hr with ⟨h10, hr⟩ | ⟨h10, hr⟩
  · refine gBrT (p := 10 ≤ s) (y := 3) (is := List.drop 5 mC3) (L := [w0, .ref p1, .int p2, .int s]) (st := []) (μ := μ) (t := 44) rfl h10 ?_
    obtain rfl := Option.some.inj hr
    exact hC w0 hw0 (.ref p1) rfl (.int p2) rfl (.int s) rfl
  · refine gBrF (p := 10 ≤ s) (y := 3) (is := List.drop 5 mC3) (L := [w0, .ref p1, .int p2, .int s]) (st := []) (μ := μ) (t := 44) rfl h10 ?_
    refine mGo.steps 1 (c' := (3, List.drop 6 mC3, [w0, .ref p1, .int p2, .int s], [.ref p1], μ)) rfl ?_
    obtain ⟨h1, hr⟩ := mIf hr
    refine gGet (is := List.drop 7 mC3) (v := .ref (mP μ p1 1)) h1 rfl ?_
    refine mGo.steps 1 (c' := (3, List.drop 8 mC3, [w0, .ref p1, .int p2, .int s], [.int s, .ref (mP μ p1 1)], μ)) rfl ?_
    obtain ⟨h2, hr⟩ := mIf hr
    refine gAald (is := List.drop 9 mC3) h2 ?_
    refine mGo.steps 2 (c' := (3, List.drop 11 mC3, [w0, .ref p1, .int p2, .int s], [.int 0, .int p2, .ref (mP μ (mP μ p1 1) (Int32.toNatClampNeg s))], μ)) rfl ?_
    obtain ⟨h3, hr⟩ := mIf hr
    obtain ⟨q4, h5, hr⟩ := mBi hr
    refine gCall (z := 83) (n := 2) (f := 0) (kind := 1) (a := (mP μ (mP μ p1 1) (Int32.toNatClampNeg s))) (As := [.int p2, .int 0]) (y := 3) (is := List.drop 12 mC3) (L := [w0, .ref p1, .int p2, .int s]) (rest := []) (μ := μ) rfl (by decide) (by decide) ⟨rfl, rfl⟩ rfl h3 (Nat.le_of_ble_eq_true rfl) (Nat.le_of_ble_eq_true rfl) (t83 h5) ?_
    rcases mIte hr with ⟨h9, hr⟩ | ⟨h9, hr⟩
    · refine gBrT (p := ¬ q4 = 0) (y := 3) (is := List.drop 13 mC3) (L := [w0, .ref p1, .int p2, .int s]) (st := []) (μ := μ) (t := 36) rfl h9 ?_
      exact t3L2_21 μ p1 p2 w0 hw0 (.ref p1) rfl (.int p2) rfl (.int s) rfl hr hC
    · refine gBrF (p := ¬ q4 = 0) (y := 3) (is := List.drop 13 mC3) (L := [w0, .ref p1, .int p2, .int s]) (st := []) (μ := μ) (t := 36) rfl h9 ?_
      refine mGo.steps 1 (c' := (3, List.drop 14 mC3, [w0, .ref p1, .int p2, .int s], [.ref p1], μ)) rfl ?_
      refine gGet (is := List.drop 15 mC3) (v := .ref (mP μ p1 1)) h1 rfl ?_
      refine mGo.steps 1 (c' := (3, List.drop 16 mC3, [w0, .ref p1, .int p2, .int s], [.int s, .ref (mP μ p1 1)], μ)) rfl ?_
      refine gAald (is := List.drop 17 mC3) h2 ?_
      refine mGo.steps 2 (c' := (3, List.drop 19 mC3, [w0, .ref p1, .int p2, .int s], [.int 1, .int p2, .ref (mP μ (mP μ p1 1) (Int32.toNatClampNeg s))], μ)) rfl ?_
      obtain ⟨q6, h7, hr⟩ := mBi hr
      refine gCall (z := 83) (n := 2) (f := 0) (kind := 1) (a := (mP μ (mP μ p1 1) (Int32.toNatClampNeg s))) (As := [.int p2, .int 1]) (y := 3) (is := List.drop 20 mC3) (L := [w0, .ref p1, .int p2, .int s]) (rest := []) (μ := μ) rfl (by decide) (by decide) ⟨rfl, rfl⟩ rfl h3 (Nat.le_of_ble_eq_true rfl) (Nat.le_of_ble_eq_true rfl) (t83 h7) ?_
      rcases mIte hr with ⟨h8, hr⟩ | ⟨h8, hr⟩
      · refine gBrT (p := q6 = 0) (y := 3) (is := List.drop 21 mC3) (L := [w0, .ref p1, .int p2, .int s]) (st := []) (μ := μ) (t := 38) rfl h8 ?_
        refine mGo.steps 2 (c' := (3, List.drop 2 mC3, [w0, .ref p1, .int p2, .int (s + 1)], [], μ)) rfl ?_
        obtain rfl := Option.some.inj hr
        exact hC w0 hw0
      · refine gBrF (p := q6 = 0) (y := 3) (is := List.drop 21 mC3) (L := [w0, .ref p1, .int p2, .int s]) (st := []) (μ := μ) (t := 38) rfl h8 ?_
        exact t3L2_21 μ p1 p2 w0 hw0 (.ref p1) rfl (.int p2) rfl (.int s) rfl hr hC
theorem t3L2l (μ : mM) (p1 : Nat) (p2 : Int32) {r : Option Value × mM} (n : Nat) (s : Int32) (o : (Unit) ⊕ Int32) (hr : mLoop (s3L2 μ p1 p2) n s = some o) (hC : Sum.elim (fun x : Unit => ∀ (w0 : Value) (hw0 : mNotL w0 = true) (w1 : Value) (hw1 : mNotL w1 = true) (w2 : Value) (hw2 : mNotL w2 = true) (w3 : Value) (hw3 : mNotL w3 = true), mGo mG (3, List.drop 25 mC3, [w0, w1, w2, w3], [], μ) r) (fun y : Int32 => r = (some (.int y), μ)) o) : ∀ (w0 : Value) (hw0 : mNotL w0 = true), mGo mG (3, List.drop 2 mC3, [w0, .ref p1, .int p2, .int s], [], μ) r :=
  mLoop_go (Hd := (fun s' : Int32 => ∀ (w0 : Value) (hw0 : mNotL w0 = true), mGo mG (3, List.drop 2 mC3, [w0, .ref p1, .int p2, .int s'], [], μ) r)) (fun s o hb hC => t3L2 μ p1 p2 s o hb hC) n s o hr hC
def s3 (μ : mM) (a0 : Nat) (a1 : Nat) (a2 : Int32) : Option Int32 :=
  (mLoop (s3L2 μ a1 a2) 1000 0).bind fun o11 => Sum.elim (fun x12 => some 0) (fun y13 => some y13) o11
set_option maxRecDepth 20000 in
theorem t3 {μ : mM} {a0 : Nat} {a1 : Nat} {a2 : Int32} {o : Int32} (hr : s3 μ a0 a1 a2 = some o) : mEv mG 3 [.ref a0, .ref a1, .int a2] μ (some (.int o)) (μ) := by
  obtain ⟨r, hC⟩ : ∃ r : Option Value × mM, r = (some (.int o), μ) := ⟨_, rfl⟩
  show mGo mG (3, List.drop 0 mC3, [.ref a0, .ref a1, .int a2, .retAddr 0], [], μ) (some (.int o), μ)
  rw [← hC]
  unfold s3 at hr
  refine mGo.steps 2 (c' := (3, List.drop 2 mC3, [.ref a0, .ref a1, .int a2, .int 0], [], μ)) rfl ?_
  obtain ⟨o11, h14, hr⟩ := mBi hr
  refine t3L2l μ a1 a2 1000 0 o11 h14 ?_ (.ref a0) rfl
  cases o11 with
  | inl x12 =>
    show ∀ (w0 : Value) (hw0 : mNotL w0 = true) (w1 : Value) (hw1 : mNotL w1 = true) (w2 : Value) (hw2 : mNotL w2 = true) (w3 : Value) (hw3 : mNotL w3 = true), mGo mG (3, List.drop 25 mC3, [w0, w1, w2, w3], [], μ) r
    intro w0 hw0 w1 hw1 w2 hw2 w3 hw3
    replace hr : (_) = some _ := hr
    refine mGo.steps 1 (c' := (3, List.drop 26 mC3, [w0, w1, w2, w3], [.int 0], μ)) rfl ?_
    obtain rfl := Option.some.inj hr
    rw [show r = _ from hC]
    exact gZret rfl (by decide)
  | inr y13 =>
    obtain rfl := Option.some.inj hr
    exact hC

/-! 18: TunnelFabric$Fabric.at(I)LTunnelFabric$Router; -/
def s18_14 (μ : mM) (a0 : Nat) (a1 : Int32) (t0 : Nat) : Option Nat :=
  some t0
set_option maxRecDepth 20000 in
theorem t18_14 (μ : mM) (a0 : Nat) (a1 : Int32) (t0 : Nat) (w0 : Value) (hw0 : mNotL w0 = true) (w1 : Value) (hw1 : mNotL w1 = true) {o : Nat} {r : Option Value × mM} (hr : s18_14 μ a0 a1 t0 = some o) (hC : r = (some (.ref o), μ)) : mGo mG (18, List.drop 14 mC18, [w0, w1], [.ref t0], μ) r := by
  unfold s18_14 at hr
  obtain rfl := Option.some.inj hr
  rw [show r = _ from hC]
  exact gAret rfl
def s18_10 (μ : mM) (a0 : Nat) (a1 : Int32) : Option Nat :=
  if (mS μ a0).1 = 1 then if (mS μ (mP μ a0 0)).1 = 20 + 4 ∧ mInb 0 (mS μ (mP μ a0 0)).2 then s18_14 μ a0 a1 (mP μ (mP μ a0 0) (Int32.toNatClampNeg 0)) else none else none
set_option maxRecDepth 20000 in
theorem t18_10 (μ : mM) (a0 : Nat) (a1 : Int32) (w1 : Value) (hw1 : mNotL w1 = true) {o : Nat} {r : Option Value × mM} (hr : s18_10 μ a0 a1 = some o) (hC : r = (some (.ref o), μ)) : mGo mG (18, List.drop 10 mC18, [.ref a0, w1], [], μ) r := by
  unfold s18_10 at hr
  refine mGo.steps 1 (c' := (18, List.drop 11 mC18, [.ref a0, w1], [.ref a0], μ)) rfl ?_
  obtain ⟨h1, hr⟩ := mIf hr
  refine gGet (is := List.drop 12 mC18) (v := .ref (mP μ a0 0)) h1 rfl ?_
  refine mGo.steps 1 (c' := (18, List.drop 13 mC18, [.ref a0, w1], [.int 0, .ref (mP μ a0 0)], μ)) rfl ?_
  obtain ⟨h2, hr⟩ := mIf hr
  refine gAald (is := List.drop 14 mC18) h2 ?_
  exact t18_14 μ a0 a1 (mP μ (mP μ a0 0) (Int32.toNatClampNeg 0)) (.ref a0) rfl w1 hw1 hr hC
def s18 (μ : mM) (a0 : Nat) (a1 : Int32) : Option Nat :=
  if a1 ≤ 0 then (s18_10 μ a0 a1) else (if 8 ≤ a1 then (s18_10 μ a0 a1) else (if (mS μ a0).1 = 1 then if (mS μ (mP μ a0 0)).1 = 20 + 4 ∧ mInb a1 (mS μ (mP μ a0 0)).2 then s18_14 μ a0 a1 (mP μ (mP μ a0 0) (Int32.toNatClampNeg a1)) else none else none))
set_option maxRecDepth 20000 in
theorem t18 {μ : mM} {a0 : Nat} {a1 : Int32} {o : Nat} (hr : s18 μ a0 a1 = some o) : mEv mG 18 [.ref a0, .int a1] μ (some (.ref o)) (μ) := by
  obtain ⟨r, hC⟩ : ∃ r : Option Value × mM, r = (some (.ref o), μ) := ⟨_, rfl⟩
  show mGo mG (18, List.drop 0 mC18, [.ref a0, .int a1], [], μ) (some (.ref o), μ)
  rw [← hC]
  unfold s18 at hr
  refine mGo.steps 1 (c' := (18, List.drop 1 mC18, [.ref a0, .int a1], [.int a1], μ)) rfl ?_
  rcases mIte hr with ⟨h6, hr⟩ | ⟨h6, hr⟩
  · refine gBrT (p := a1 ≤ 0) (y := 18) (is := List.drop 2 mC18) (L := [.ref a0, .int a1]) (st := []) (μ := μ) (t := 19) rfl h6 ?_
    exact t18_10 μ a0 a1 (.int a1) rfl hr hC
  · refine gBrF (p := a1 ≤ 0) (y := 18) (is := List.drop 2 mC18) (L := [.ref a0, .int a1]) (st := []) (μ := μ) (t := 19) rfl h6 ?_
    refine mGo.steps 2 (c' := (18, List.drop 4 mC18, [.ref a0, .int a1], [.int 8, .int a1], μ)) rfl ?_
    rcases mIte hr with ⟨h5, hr⟩ | ⟨h5, hr⟩
    · refine gBrT (p := 8 ≤ a1) (y := 18) (is := List.drop 5 mC18) (L := [.ref a0, .int a1]) (st := []) (μ := μ) (t := 19) rfl h5 ?_
      exact t18_10 μ a0 a1 (.int a1) rfl hr hC
    · refine gBrF (p := 8 ≤ a1) (y := 18) (is := List.drop 5 mC18) (L := [.ref a0, .int a1]) (st := []) (μ := μ) (t := 19) rfl h5 ?_
      refine mGo.steps 1 (c' := (18, List.drop 6 mC18, [.ref a0, .int a1], [.ref a0], μ)) rfl ?_
      obtain ⟨h3, hr⟩ := mIf hr
      refine gGet (is := List.drop 7 mC18) (v := .ref (mP μ a0 0)) h3 rfl ?_
      refine mGo.steps 1 (c' := (18, List.drop 8 mC18, [.ref a0, .int a1], [.int a1, .ref (mP μ a0 0)], μ)) rfl ?_
      obtain ⟨h4, hr⟩ := mIf hr
      refine gAald (is := List.drop 9 mC18) h4 ?_
      refine mGo.steps 1 (c' := (18, List.drop 14 mC18, [.ref a0, .int a1], [.ref (mP μ (mP μ a0 0) (Int32.toNatClampNeg a1))], μ)) rfl ?_
      exact t18_14 μ a0 a1 (mP μ (mP μ a0 0) (Int32.toNatClampNeg a1)) (.ref a0) rfl (.int a1) rfl hr hC

/-! 56: TunnelFabric$Link.startWaking()V -/
def s56 (μ : mM) (a0 : Nat) : Option mM :=
  if (mS μ a0).1 = 2 then (some (mUI μ a0 2 3)).bind fun μ2 => (some (mUI μ2 a0 4 2)).bind fun μ3 => some μ3 else none
set_option maxRecDepth 20000 in
theorem t56 {μ : mM} {a0 : Nat} {o : mM} (hr : s56 μ a0 = some o) : mEv mG 56 [.ref a0] μ (none) (o) := by
  obtain ⟨r, hC⟩ : ∃ r : Option Value × mM, r = (none, o) := ⟨_, rfl⟩
  show mGo mG (56, List.drop 0 mC56, [.ref a0], [], μ) (none, o)
  rw [← hC]
  unfold s56 at hr
  refine mGo.steps 2 (c' := (56, List.drop 2 mC56, [.ref a0], [.int 3, .ref a0], μ)) rfl ?_
  obtain ⟨h1, hr⟩ := mIf hr
  replace hr := mBs hr
  refine gPut (is := List.drop 3 mC56) (μ' := mUI μ a0 2 3) h1 rfl ?_
  let μ2 : mM := mUI μ a0 2 3
  refine mGo.steps 2 (c' := (56, List.drop 5 mC56, [.ref a0], [.int 2, .ref a0], μ2)) rfl ?_
  replace hr := mBs hr
  refine gPut (is := List.drop 6 mC56) (μ' := mUI μ2 a0 4 2) h1 rfl ?_
  let μ3 : mM := mUI μ2 a0 4 2
  obtain rfl := Option.some.inj hr
  rw [show r = _ from hC]
  exact gVret rfl

/-! 2: TunnelFabric$Clock.wake(LTunnelFabric$Fabric;I)V -/
def s2_36 (a0 : Nat) (a1 : Nat) (a2 : Int32) (μ : mM) : Option mM :=
  some μ
set_option maxRecDepth 20000 in
theorem t2_36 (a0 : Nat) (a1 : Nat) (a2 : Int32) (μ : mM) (w0 : Value) (hw0 : mNotL w0 = true) (w1 : Value) (hw1 : mNotL w1 = true) (w2 : Value) (hw2 : mNotL w2 = true) (w3 : Value) (hw3 : mNotL w3 = true) {o : mM} {r : Option Value × mM} (hr : s2_36 a0 a1 a2 μ = some o) (hC : r = (none, o)) : mGo mG (2, List.drop 36 mC2, [w0, w1, w2, w3], [], μ) r := by
  unfold s2_36 at hr
  obtain rfl := Option.some.inj hr
  rw [show r = _ from hC]
  exact gVret rfl
def s2 (μ : mM) (a0 : Nat) (a1 : Nat) (a2 : Int32) : Option mM :=
  if (mS μ a1).1 = 1 then (s18 μ a1 a2).bind fun q2 => if (mS μ q2).1 = 4 then if (mS μ (mP μ q2 6)).1 = 2 then if ¬ (mI μ (mP μ q2 6) 2) = 3 then (if ¬ (mI μ (mP μ q2 6) 2) = 2 then (s2_36 a0 a1 a2 μ) else (if (mS μ a0).1 = 0 then (s3 μ a0 a1 a2).bind fun q7 => if q7 = 0 then (s2_36 a0 a1 a2 μ) else ((s56 μ (mP μ q2 6)).bind fun q9 => s2_36 a0 a1 a2 q9) else none)) else ((some (mUI μ (mP μ q2 6) 4 ((mI μ (mP μ q2 6) 4) - 1))).bind fun μ13 => if 0 < (mI μ13 (mP μ q2 6) 4) then (s2_36 a0 a1 a2 μ13) else ((some (mUI μ13 (mP μ q2 6) 4 0)).bind fun μ14 => (some (mUI μ14 (mP μ q2 6) 2 0)).bind fun μ15 => s2_36 a0 a1 a2 μ15)) else none else none else none
set_option maxRecDepth 20000 in
theorem t2 {μ : mM} {a0 : Nat} {a1 : Nat} {a2 : Int32} {o : mM} (hr : s2 μ a0 a1 a2 = some o) : mEv mG 2 [.ref a0, .ref a1, .int a2] μ (none) (o) := by
  obtain ⟨r, hC⟩ : ∃ r : Option Value × mM, r = (none, o) := ⟨_, rfl⟩
  show mGo mG (2, List.drop 0 mC2, [.ref a0, .ref a1, .int a2, .retAddr 0], [], μ) (none, o)
  rw [← hC]
  unfold s2 at hr
  refine mGo.steps 2 (c' := (2, List.drop 2 mC2, [.ref a0, .ref a1, .int a2, .retAddr 0], [.int a2, .ref a1], μ)) rfl ?_
  obtain ⟨h1, hr⟩ := mIf hr
  obtain ⟨q2, h3, hr⟩ := mBi hr
  refine gCall (z := 18) (n := 1) (f := 0) (kind := 1) (a := a1) (As := [.int a2]) (y := 2) (is := List.drop 3 mC2) (L := [.ref a0, .ref a1, .int a2, .retAddr 0]) (rest := []) (μ := μ) rfl (by decide) (by decide) ⟨rfl, rfl⟩ rfl h1 (Nat.le_of_ble_eq_true rfl) (Nat.le_of_ble_eq_true rfl) (t18 h3) ?_
  obtain ⟨h4, hr⟩ := mIf hr
  refine gGet (is := List.drop 4 mC2) (v := .ref (mP μ q2 6)) h4 rfl ?_
  refine mGo.steps 2 (c' := (2, List.drop 6 mC2, [.ref a0, .ref a1, .int a2, .ref (mP μ q2 6)], [.ref (mP μ q2 6)], μ)) rfl ?_
  obtain ⟨h5, hr⟩ := mIf hr
  refine gGet (is := List.drop 7 mC2) (v := .int (mI μ (mP μ q2 6) 2)) h5 rfl ?_
  refine mGo.steps 1 (c' := (2, List.drop 8 mC2, [.ref a0, .ref a1, .int a2, .ref (mP μ q2 6)], [.int 3, .int (mI μ (mP μ q2 6) 2)], μ)) rfl ?_
  rcases mIte hr with ⟨h17, hr⟩ | ⟨h17, hr⟩
  · refine gBrT (p := ¬ (mI μ (mP μ q2 6) 2) = 3) (y := 2) (is := List.drop 9 mC2) (L := [.ref a0, .ref a1, .int a2, .ref (mP μ q2 6)]) (st := []) (μ := μ) (t := 47) rfl h17 ?_
    refine mGo.steps 1 (c' := (2, List.drop 26 mC2, [.ref a0, .ref a1, .int a2, .ref (mP μ q2 6)], [.ref (mP μ q2 6)], μ)) rfl ?_
    refine gGet (is := List.drop 27 mC2) (v := .int (mI μ (mP μ q2 6) 2)) h5 rfl ?_
    refine mGo.steps 1 (c' := (2, List.drop 28 mC2, [.ref a0, .ref a1, .int a2, .ref (mP μ q2 6)], [.int 2, .int (mI μ (mP μ q2 6) 2)], μ)) rfl ?_
    rcases mIte hr with ⟨h12, hr⟩ | ⟨h12, hr⟩
    · refine gBrT (p := ¬ (mI μ (mP μ q2 6) 2) = 2) (y := 2) (is := List.drop 29 mC2) (L := [.ref a0, .ref a1, .int a2, .ref (mP μ q2 6)]) (st := []) (μ := μ) (t := 68) rfl h12 ?_
      exact t2_36 a0 a1 a2 μ (.ref a0) rfl (.ref a1) rfl (.int a2) rfl (.ref (mP μ q2 6)) rfl hr hC
    · refine gBrF (p := ¬ (mI μ (mP μ q2 6) 2) = 2) (y := 2) (is := List.drop 29 mC2) (L := [.ref a0, .ref a1, .int a2, .ref (mP μ q2 6)]) (st := []) (μ := μ) (t := 68) rfl h12 ?_
      refine mGo.steps 3 (c' := (2, List.drop 32 mC2, [.ref a0, .ref a1, .int a2, .ref (mP μ q2 6)], [.int a2, .ref a1, .ref a0], μ)) rfl ?_
      obtain ⟨h6, hr⟩ := mIf hr
      obtain ⟨q7, h8, hr⟩ := mBi hr
      refine gCall (z := 3) (n := 2) (f := 0) (kind := 1) (a := a0) (As := [.ref a1, .int a2]) (y := 2) (is := List.drop 33 mC2) (L := [.ref a0, .ref a1, .int a2, .ref (mP μ q2 6)]) (rest := []) (μ := μ) rfl (by decide) (by decide) ⟨rfl, rfl⟩ rfl h6 (Nat.le_of_ble_eq_true rfl) (Nat.le_of_ble_eq_true rfl) (t3 h8) ?_
      rcases mIte hr with ⟨h11, hr⟩ | ⟨h11, hr⟩
      · refine gBrT (p := q7 = 0) (y := 2) (is := List.drop 34 mC2) (L := [.ref a0, .ref a1, .int a2, .ref (mP μ q2 6)]) (st := []) (μ := μ) (t := 68) rfl h11 ?_
        exact t2_36 a0 a1 a2 μ (.ref a0) rfl (.ref a1) rfl (.int a2) rfl (.ref (mP μ q2 6)) rfl hr hC
      · refine gBrF (p := q7 = 0) (y := 2) (is := List.drop 34 mC2) (L := [.ref a0, .ref a1, .int a2, .ref (mP μ q2 6)]) (st := []) (μ := μ) (t := 68) rfl h11 ?_
        refine mGo.steps 1 (c' := (2, List.drop 35 mC2, [.ref a0, .ref a1, .int a2, .ref (mP μ q2 6)], [.ref (mP μ q2 6)], μ)) rfl ?_
        obtain ⟨q9, h10, hr⟩ := mBi hr
        refine gCall (z := 56) (n := 0) (f := 0) (kind := 1) (a := (mP μ q2 6)) (As := []) (y := 2) (is := List.drop 36 mC2) (L := [.ref a0, .ref a1, .int a2, .ref (mP μ q2 6)]) (rest := []) (μ := μ) rfl (by decide) (by decide) ⟨rfl, rfl⟩ rfl h5 (Nat.le_of_ble_eq_true rfl) (Nat.le_of_ble_eq_true rfl) (t56 h10) ?_
        exact t2_36 a0 a1 a2 q9 (.ref a0) rfl (.ref a1) rfl (.int a2) rfl (.ref (mP μ q2 6)) rfl hr hC
  · refine gBrF (p := ¬ (mI μ (mP μ q2 6) 2) = 3) (y := 2) (is := List.drop 9 mC2) (L := [.ref a0, .ref a1, .int a2, .ref (mP μ q2 6)]) (st := []) (μ := μ) (t := 47) rfl h17 ?_
    refine mGo.steps 2 (c' := (2, List.drop 11 mC2, [.ref a0, .ref a1, .int a2, .ref (mP μ q2 6)], [.ref (mP μ q2 6), .ref (mP μ q2 6)], μ)) rfl ?_
    refine gGet (is := List.drop 12 mC2) (v := .int (mI μ (mP μ q2 6) 4)) h5 rfl ?_
    refine mGo.steps 2 (c' := (2, List.drop 14 mC2, [.ref a0, .ref a1, .int a2, .ref (mP μ q2 6)], [.int ((mI μ (mP μ q2 6) 4) - 1), .ref (mP μ q2 6)], μ)) rfl ?_
    replace hr := mBs hr
    refine gPut (is := List.drop 15 mC2) (μ' := mUI μ (mP μ q2 6) 4 ((mI μ (mP μ q2 6) 4) - 1)) h5 rfl ?_
    let μ13 : mM := mUI μ (mP μ q2 6) 4 ((mI μ (mP μ q2 6) 4) - 1)
    refine mGo.steps 1 (c' := (2, List.drop 16 mC2, [.ref a0, .ref a1, .int a2, .ref (mP μ q2 6)], [.ref (mP μ q2 6)], μ13)) rfl ?_
    refine gGet (is := List.drop 17 mC2) (v := .int (mI μ13 (mP μ q2 6) 4)) h5 rfl ?_
    rcases mIte hr with ⟨h16, hr⟩ | ⟨h16, hr⟩
    · refine gBrT (p := 0 < (mI μ13 (mP μ q2 6) 4)) (y := 2) (is := List.drop 18 mC2) (L := [.ref a0, .ref a1, .int a2, .ref (mP μ q2 6)]) (st := []) (μ := μ13) (t := 68) rfl h16 ?_
      exact t2_36 a0 a1 a2 μ13 (.ref a0) rfl (.ref a1) rfl (.int a2) rfl (.ref (mP μ q2 6)) rfl hr hC
    · refine gBrF (p := 0 < (mI μ13 (mP μ q2 6) 4)) (y := 2) (is := List.drop 18 mC2) (L := [.ref a0, .ref a1, .int a2, .ref (mP μ q2 6)]) (st := []) (μ := μ13) (t := 68) rfl h16 ?_
      refine mGo.steps 2 (c' := (2, List.drop 20 mC2, [.ref a0, .ref a1, .int a2, .ref (mP μ q2 6)], [.int 0, .ref (mP μ q2 6)], μ13)) rfl ?_
      replace hr := mBs hr
      refine gPut (is := List.drop 21 mC2) (μ' := mUI μ13 (mP μ q2 6) 4 0) h5 rfl ?_
      let μ14 : mM := mUI μ13 (mP μ q2 6) 4 0
      refine mGo.steps 2 (c' := (2, List.drop 23 mC2, [.ref a0, .ref a1, .int a2, .ref (mP μ q2 6)], [.int 0, .ref (mP μ q2 6)], μ14)) rfl ?_
      replace hr := mBs hr
      refine gPut (is := List.drop 24 mC2) (μ' := mUI μ14 (mP μ q2 6) 2 0) h5 rfl ?_
      let μ15 : mM := mUI μ14 (mP μ q2 6) 2 0
      refine mGo.steps 1 (c' := (2, List.drop 36 mC2, [.ref a0, .ref a1, .int a2, .ref (mP μ q2 6)], [], μ15)) rfl ?_
      exact t2_36 a0 a1 a2 μ15 (.ref a0) rfl (.ref a1) rfl (.int a2) rfl (.ref (mP μ q2 6)) rfl hr hC

/-! 5: TunnelFabric$Clock.findHops(LTunnelFabric$Fabric;II)Z -/
def s5L4_37 (p0 : Nat) (p1 : Nat) (p2 : Int32) (p3 : Int32) (μ : mM) (v5 : Int32) (t0 : Int32) : Option ((Int32 × Int32 × mM) ⊕ ((Int32 × mM) ⊕ (Int32 × mM))) :=
  some (.inl (t0, v5 + 1, μ))
set_option maxRecDepth 20000 in
theorem t5L4_37 (p0 : Nat) (p1 : Nat) (p2 : Int32) (p3 : Int32) (μ : mM) (v5 : Int32) (t0 : Int32) (w4 : Value) (hw4 : mNotL w4 = true) (w6 : Value) (hw6 : mNotL w6 = true) {o : ((Int32 × Int32 × mM) ⊕ ((Int32 × mM) ⊕ (Int32 × mM)))} {r : Option Value × mM} (hr : s5L4_37 p0 p1 p2 p3 μ v5 t0 = some o) (hC : Sum.elim (fun s' : Int32 × Int32 × mM => ∀ (w6 : Value) (hw6 : mNotL w6 = true), mGo mG (5, List.drop 4 mC5, [.ref p0, .ref p1, .int p2, .int p3, .int s'.1, .int s'.2.1, w6], [], s'.2.2) r) (Sum.elim (fun x : Int32 × mM => ∀ (w0 : Value) (hw0 : mNotL w0 = true) (w1 : Value) (hw1 : mNotL w1 = true) (w2 : Value) (hw2 : mNotL w2 = true) (w3 : Value) (hw3 : mNotL w3 = true) (w5 : Value) (hw5 : mNotL w5 = true) (w6 : Value) (hw6 : mNotL w6 = true), mGo mG (5, List.drop 40 mC5, [w0, w1, w2, w3, .int x.1, w5, w6], [], x.2) r) (fun y : (Int32 × mM) => r = (some (.int y.1), y.2))) o) : mGo mG (5, List.drop 37 mC5, [.ref p0, .ref p1, .int p2, .int p3, w4, .int v5, w6], [.int t0], μ) r := by
  unfold s5L4_37 at hr
  refine mGo.steps 3 (c' := (5, List.drop 4 mC5, [.ref p0, .ref p1, .int p2, .int p3, .int t0, .int (v5 + 1), w6], [], μ)) rfl ?_
  obtain rfl := Option.some.inj hr
  exact hC w6 hw6
def s5L4_34 (p0 : Nat) (p1 : Nat) (p2 : Int32) (p3 : Int32) (μ : mM) (v5 : Int32) : Option ((Int32 × Int32 × mM) ⊕ ((Int32 × mM) ⊕ (Int32 × mM))) :=
  s5L4_37 p0 p1 p2 p3 μ v5 1
set_option maxRecDepth 20000 in
theorem t5L4_34 (p0 : Nat) (p1 : Nat) (p2 : Int32) (p3 : Int32) (μ : mM) (v5 : Int32) (w4 : Value) (hw4 : mNotL w4 = true) (w6 : Value) (hw6 : mNotL w6 = true) {o : ((Int32 × Int32 × mM) ⊕ ((Int32 × mM) ⊕ (Int32 × mM)))} {r : Option Value × mM} (hr : s5L4_34 p0 p1 p2 p3 μ v5 = some o) (hC : Sum.elim (fun s' : Int32 × Int32 × mM => ∀ (w6 : Value) (hw6 : mNotL w6 = true), mGo mG (5, List.drop 4 mC5, [.ref p0, .ref p1, .int p2, .int p3, .int s'.1, .int s'.2.1, w6], [], s'.2.2) r) (Sum.elim (fun x : Int32 × mM => ∀ (w0 : Value) (hw0 : mNotL w0 = true) (w1 : Value) (hw1 : mNotL w1 = true) (w2 : Value) (hw2 : mNotL w2 = true) (w3 : Value) (hw3 : mNotL w3 = true) (w5 : Value) (hw5 : mNotL w5 = true) (w6 : Value) (hw6 : mNotL w6 = true), mGo mG (5, List.drop 40 mC5, [w0, w1, w2, w3, .int x.1, w5, w6], [], x.2) r) (fun y : (Int32 × mM) => r = (some (.int y.1), y.2))) o) : mGo mG (5, List.drop 34 mC5, [.ref p0, .ref p1, .int p2, .int p3, w4, .int v5, w6], [], μ) r := by
  unfold s5L4_34 at hr
  refine mGo.steps 2 (c' := (5, List.drop 37 mC5, [.ref p0, .ref p1, .int p2, .int p3, w4, .int v5, w6], [.int 1], μ)) rfl ?_
  exact t5L4_37 p0 p1 p2 p3 μ v5 1 w4 hw4 w6 hw6 hr hC
def s5L4_25 (p0 : Nat) (p1 : Nat) (p2 : Int32) (p3 : Int32) (μ : mM) (v4 : Int32) (v5 : Int32) (t0 : Int32) (t1 : Int32) (t2 : Nat) : Option ((Int32 × Int32 × mM) ⊕ ((Int32 × mM) ⊕ (Int32 × mM))) :=
  if (mS μ t2).1 = 10 ∧ mInb t1 (mS μ t2).2 then (some (mUI μ t2 (Int32.toNatClampNeg t1) t0)).bind fun μ6 => if ¬ v4 = 0 then (s5L4_34 p0 p1 p2 p3 μ6 v5) else (if (mS μ6 p0).1 = 0 then if (mS μ6 (mP μ6 p0 0)).1 = 10 ∧ mInb v5 (mS μ6 (mP μ6 p0 0)).2 then if (mI μ6 (mP μ6 p0 0) (Int32.toNatClampNeg v5)) = (-1) then (s5L4_37 p0 p1 p2 p3 μ6 v5 0) else (s5L4_34 p0 p1 p2 p3 μ6 v5) else none else none) else none
set_option maxRecDepth 20000 in
theorem t5L4_25 (p0 : Nat) (p1 : Nat) (p2 : Int32) (p3 : Int32) (μ : mM) (v4 : Int32) (v5 : Int32) (t0 : Int32) (t1 : Int32) (t2 : Nat) (w6 : Value) (hw6 : mNotL w6 = true) {o : ((Int32 × Int32 × mM) ⊕ ((Int32 × mM) ⊕ (Int32 × mM)))} {r : Option Value × mM} (hr : s5L4_25 p0 p1 p2 p3 μ v4 v5 t0 t1 t2 = some o) (hC : Sum.elim (fun s' : Int32 × Int32 × mM => ∀ (w6 : Value) (hw6 : mNotL w6 = true), mGo mG (5, List.drop 4 mC5, [.ref p0, .ref p1, .int p2, .int p3, .int s'.1, .int s'.2.1, w6], [], s'.2.2) r) (Sum.elim (fun x : Int32 × mM => ∀ (w0 : Value) (hw0 : mNotL w0 = true) (w1 : Value) (hw1 : mNotL w1 = true) (w2 : Value) (hw2 : mNotL w2 = true) (w3 : Value) (hw3 : mNotL w3 = true) (w5 : Value) (hw5 : mNotL w5 = true) (w6 : Value) (hw6 : mNotL w6 = true), mGo mG (5, List.drop 40 mC5, [w0, w1, w2, w3, .int x.1, w5, w6], [], x.2) r) (fun y : (Int32 × mM) => r = (some (.int y.1), y.2))) o) : mGo mG (5, List.drop 25 mC5, [.ref p0, .ref p1, .int p2, .int p3, .int v4, .int v5, w6], [.int t0, .int t1, .ref t2], μ) r := by
  unfold s5L4_25 at hr
  obtain ⟨h5, hr⟩ := mIf hr
  replace hr := mBs hr
  refine gIast (is := List.drop 26 mC5) h5 ?_
  let μ6 : mM := mUI μ t2 (Int32.toNatClampNeg t1) t0
  refine mGo.steps 1 (c' := (5, List.drop 27 mC5, [.ref p0, .ref p1, .int p2, .int p3, .int v4, .int v5, w6], [.int v4], μ6)) rfl ?_
  rcases mIte hr with ⟨h10, hr⟩ | ⟨h10, hr⟩
  · refine gBrT (p := ¬ v4 = 0) (y := 5) (is := List.drop 28 mC5) (L := [.ref p0, .ref p1, .int p2, .int p3, .int v4, .int v5, w6]) (st := []) (μ := μ6) (t := 67) rfl h10 ?_
    exact t5L4_34 p0 p1 p2 p3 μ6 v5 (.int v4) rfl w6 hw6 hr hC
  · refine gBrF (p := ¬ v4 = 0) (y := 5) (is := List.drop 28 mC5) (L := [.ref p0, .ref p1, .int p2, .int p3, .int v4, .int v5, w6]) (st := []) (μ := μ6) (t := 67) rfl h10 ?_
    refine mGo.steps 1 (c' := (5, List.drop 29 mC5, [.ref p0, .ref p1, .int p2, .int p3, .int v4, .int v5, w6], [.ref p0], μ6)) rfl ?_
    obtain ⟨h7, hr⟩ := mIf hr
    refine gGet (is := List.drop 30 mC5) (v := .ref (mP μ6 p0 0)) h7 rfl ?_
    refine mGo.steps 1 (c' := (5, List.drop 31 mC5, [.ref p0, .ref p1, .int p2, .int p3, .int v4, .int v5, w6], [.int v5, .ref (mP μ6 p0 0)], μ6)) rfl ?_
    obtain ⟨h8, hr⟩ := mIf hr
    refine gIald (is := List.drop 32 mC5) h8 ?_
    refine mGo.steps 1 (c' := (5, List.drop 33 mC5, [.ref p0, .ref p1, .int p2, .int p3, .int v4, .int v5, w6], [.int (-1), .int (mI μ6 (mP μ6 p0 0) (Int32.toNatClampNeg v5))], μ6)) rfl ?_
    rcases mIte hr with ⟨h9, hr⟩ | ⟨h9, hr⟩
    · refine gBrT (p := (mI μ6 (mP μ6 p0 0) (Int32.toNatClampNeg v5)) = (-1)) (y := 5) (is := List.drop 34 mC5) (L := [.ref p0, .ref p1, .int p2, .int p3, .int v4, .int v5, w6]) (st := []) (μ := μ6) (t := 71) rfl h9 ?_
      refine mGo.steps 1 (c' := (5, List.drop 37 mC5, [.ref p0, .ref p1, .int p2, .int p3, .int v4, .int v5, w6], [.int 0], μ6)) rfl ?_
      exact t5L4_37 p0 p1 p2 p3 μ6 v5 0 (.int v4) rfl w6 hw6 hr hC
    · refine gBrF (p := (mI μ6 (mP μ6 p0 0) (Int32.toNatClampNeg v5)) = (-1)) (y := 5) (is := List.drop 34 mC5) (L := [.ref p0, .ref p1, .int p2, .int p3, .int v4, .int v5, w6]) (st := []) (μ := μ6) (t := 71) rfl h9 ?_
      exact t5L4_34 p0 p1 p2 p3 μ6 v5 (.int v4) rfl w6 hw6 hr hC
def s5L4 (p0 : Nat) (p1 : Nat) (p2 : Int32) (p3 : Int32) (s : Int32 × Int32 × mM) : Option ((Int32 × Int32 × mM) ⊕ ((Int32 × mM) ⊕ (Int32 × mM))) :=
  if 10 ≤ s.2.1 then (some (.inr (.inl (s.1, s.2.2)))) else (if (mS s.2.2 p1).1 = 1 then if (mS s.2.2 (mP s.2.2 p1 1)).1 = 20 + 6 ∧ mInb s.2.1 (mS s.2.2 (mP s.2.2 p1 1)).2 then if (mS s.2.2 p0).1 = 0 then if (mS s.2.2 (mP s.2.2 (mP s.2.2 p1 1) (Int32.toNatClampNeg s.2.1))).1 = 6 then if (mI s.2.2 (mP s.2.2 (mP s.2.2 p1 1) (Int32.toNatClampNeg s.2.1)) 0) = 0 then (s5L4_25 p0 p1 p2 p3 s.2.2 s.1 s.2.1 (-1) s.2.1 (mP s.2.2 p0 0)) else ((s78 s.2.2 (mP s.2.2 (mP s.2.2 p1 1) (Int32.toNatClampNeg s.2.1)) p3).bind fun q11 => if (mS s.2.2 q11).1 = 7 then (s90 s.2.2 q11 p2).bind fun q14 => s5L4_25 p0 p1 p2 p3 s.2.2 s.1 s.2.1 q14 s.2.1 (mP s.2.2 p0 0) else none) else none else none else none else none)
set_option maxRecDepth 20000 in
theorem t5L4 (p0 : Nat) (p1 : Nat) (p2 : Int32) (p3 : Int32) {r : Option Value × mM} (s : Int32 × Int32 × mM) (o : ((Int32 × Int32 × mM) ⊕ ((Int32 × mM) ⊕ (Int32 × mM)))) (hr : s5L4 p0 p1 p2 p3 s = some o) (hC : Sum.elim (fun s' : Int32 × Int32 × mM => ∀ (w6 : Value) (hw6 : mNotL w6 = true), mGo mG (5, List.drop 4 mC5, [.ref p0, .ref p1, .int p2, .int p3, .int s'.1, .int s'.2.1, w6], [], s'.2.2) r) (Sum.elim (fun x : Int32 × mM => ∀ (w0 : Value) (hw0 : mNotL w0 = true) (w1 : Value) (hw1 : mNotL w1 = true) (w2 : Value) (hw2 : mNotL w2 = true) (w3 : Value) (hw3 : mNotL w3 = true) (w5 : Value) (hw5 : mNotL w5 = true) (w6 : Value) (hw6 : mNotL w6 = true), mGo mG (5, List.drop 40 mC5, [w0, w1, w2, w3, .int x.1, w5, w6], [], x.2) r) (fun y : (Int32 × mM) => r = (some (.int y.1), y.2))) o) : ∀ (w6 : Value) (hw6 : mNotL w6 = true), mGo mG (5, List.drop 4 mC5, [.ref p0, .ref p1, .int p2, .int p3, .int s.1, .int s.2.1, w6], [], s.2.2) r := by
  intro w6 hw6
  unfold s5L4 at hr
  refine mGo.steps 2 (c' := (5, List.drop 6 mC5, [.ref p0, .ref p1, .int p2, .int p3, .int s.1, .int s.2.1, w6], [.int 10, .int s.2.1], s.2.2)) rfl ?_
  rcases mIte hr with ⟨h17, hr⟩ | ⟨h17, hr⟩
  · refine gBrT (p := 10 ≤ s.2.1) (y := 5) (is := List.drop 7 mC5) (L := [.ref p0, .ref p1, .int p2, .int p3, .int s.1, .int s.2.1, w6]) (st := []) (μ := s.2.2) (t := 80) rfl h17 ?_
    obtain rfl := Option.some.inj hr
    exact hC (.ref p0) rfl (.ref p1) rfl (.int p2) rfl (.int p3) rfl (.int s.2.1) rfl w6 hw6
  · refine gBrF (p := 10 ≤ s.2.1) (y := 5) (is := List.drop 7 mC5) (L := [.ref p0, .ref p1, .int p2, .int p3, .int s.1, .int s.2.1, w6]) (st := []) (μ := s.2.2) (t := 80) rfl h17 ?_
    refine mGo.steps 1 (c' := (5, List.drop 8 mC5, [.ref p0, .ref p1, .int p2, .int p3, .int s.1, .int s.2.1, w6], [.ref p1], s.2.2)) rfl ?_
    obtain ⟨h1, hr⟩ := mIf hr
    refine gGet (is := List.drop 9 mC5) (v := .ref (mP s.2.2 p1 1)) h1 rfl ?_
    refine mGo.steps 1 (c' := (5, List.drop 10 mC5, [.ref p0, .ref p1, .int p2, .int p3, .int s.1, .int s.2.1, w6], [.int s.2.1, .ref (mP s.2.2 p1 1)], s.2.2)) rfl ?_
    obtain ⟨h2, hr⟩ := mIf hr
    refine gAald (is := List.drop 11 mC5) h2 ?_
    refine mGo.steps 2 (c' := (5, List.drop 13 mC5, [.ref p0, .ref p1, .int p2, .int p3, .int s.1, .int s.2.1, .ref (mP s.2.2 (mP s.2.2 p1 1) (Int32.toNatClampNeg s.2.1))], [.ref p0], s.2.2)) rfl ?_
    obtain ⟨h3, hr⟩ := mIf hr
    refine gGet (is := List.drop 14 mC5) (v := .ref (mP s.2.2 p0 0)) h3 rfl ?_
    refine mGo.steps 2 (c' := (5, List.drop 16 mC5, [.ref p0, .ref p1, .int p2, .int p3, .int s.1, .int s.2.1, .ref (mP s.2.2 (mP s.2.2 p1 1) (Int32.toNatClampNeg s.2.1))], [.ref (mP s.2.2 (mP s.2.2 p1 1) (Int32.toNatClampNeg s.2.1)), .int s.2.1, .ref (mP s.2.2 p0 0)], s.2.2)) rfl ?_
    obtain ⟨h4, hr⟩ := mIf hr
    refine gGet (is := List.drop 17 mC5) (v := .int (mI s.2.2 (mP s.2.2 (mP s.2.2 p1 1) (Int32.toNatClampNeg s.2.1)) 0)) h4 rfl ?_
    rcases mIte hr with ⟨h16, hr⟩ | ⟨h16, hr⟩
    · refine gBrT (p := (mI s.2.2 (mP s.2.2 (mP s.2.2 p1 1) (Int32.toNatClampNeg s.2.1)) 0) = 0) (y := 5) (is := List.drop 18 mC5) (L := [.ref p0, .ref p1, .int p2, .int p3, .int s.1, .int s.2.1, .ref (mP s.2.2 (mP s.2.2 p1 1) (Int32.toNatClampNeg s.2.1))]) (st := [.int s.2.1, .ref (mP s.2.2 p0 0)]) (μ := s.2.2) (t := 49) rfl h16 ?_
      refine mGo.steps 1 (c' := (5, List.drop 25 mC5, [.ref p0, .ref p1, .int p2, .int p3, .int s.1, .int s.2.1, .ref (mP s.2.2 (mP s.2.2 p1 1) (Int32.toNatClampNeg s.2.1))], [.int (-1), .int s.2.1, .ref (mP s.2.2 p0 0)], s.2.2)) rfl ?_
      exact t5L4_25 p0 p1 p2 p3 s.2.2 s.1 s.2.1 (-1) s.2.1 (mP s.2.2 p0 0) (.ref (mP s.2.2 (mP s.2.2 p1 1) (Int32.toNatClampNeg s.2.1))) rfl hr hC
    · refine gBrF (p := (mI s.2.2 (mP s.2.2 (mP s.2.2 p1 1) (Int32.toNatClampNeg s.2.1)) 0) = 0) (y := 5) (is := List.drop 18 mC5) (L := [.ref p0, .ref p1, .int p2, .int p3, .int s.1, .int s.2.1, .ref (mP s.2.2 (mP s.2.2 p1 1) (Int32.toNatClampNeg s.2.1))]) (st := [.int s.2.1, .ref (mP s.2.2 p0 0)]) (μ := s.2.2) (t := 49) rfl h16 ?_
      refine mGo.steps 2 (c' := (5, List.drop 20 mC5, [.ref p0, .ref p1, .int p2, .int p3, .int s.1, .int s.2.1, .ref (mP s.2.2 (mP s.2.2 p1 1) (Int32.toNatClampNeg s.2.1))], [.int p3, .ref (mP s.2.2 (mP s.2.2 p1 1) (Int32.toNatClampNeg s.2.1)), .int s.2.1, .ref (mP s.2.2 p0 0)], s.2.2)) rfl ?_
      obtain ⟨q11, h12, hr⟩ := mBi hr
      refine gCall (z := 78) (n := 1) (f := 0) (kind := 1) (a := (mP s.2.2 (mP s.2.2 p1 1) (Int32.toNatClampNeg s.2.1))) (As := [.int p3]) (y := 5) (is := List.drop 21 mC5) (L := [.ref p0, .ref p1, .int p2, .int p3, .int s.1, .int s.2.1, .ref (mP s.2.2 (mP s.2.2 p1 1) (Int32.toNatClampNeg s.2.1))]) (rest := [.int s.2.1, .ref (mP s.2.2 p0 0)]) (μ := s.2.2) rfl (by decide) (by decide) ⟨rfl, rfl⟩ rfl h4 (Nat.le_of_ble_eq_true rfl) (Nat.le_of_ble_eq_true rfl) (t78 h12) ?_
      refine mGo.steps 1 (c' := (5, List.drop 22 mC5, [.ref p0, .ref p1, .int p2, .int p3, .int s.1, .int s.2.1, .ref (mP s.2.2 (mP s.2.2 p1 1) (Int32.toNatClampNeg s.2.1))], [.int p2, .ref q11, .int s.2.1, .ref (mP s.2.2 p0 0)], s.2.2)) rfl ?_
      obtain ⟨h13, hr⟩ := mIf hr
      obtain ⟨q14, h15, hr⟩ := mBi hr
      refine gCall (z := 90) (n := 1) (f := 0) (kind := 1) (a := q11) (As := [.int p2]) (y := 5) (is := List.drop 23 mC5) (L := [.ref p0, .ref p1, .int p2, .int p3, .int s.1, .int s.2.1, .ref (mP s.2.2 (mP s.2.2 p1 1) (Int32.toNatClampNeg s.2.1))]) (rest := [.int s.2.1, .ref (mP s.2.2 p0 0)]) (μ := s.2.2) rfl (by decide) (by decide) ⟨rfl, rfl⟩ rfl h13 (Nat.le_of_ble_eq_true rfl) (Nat.le_of_ble_eq_true rfl) (t90 h15) ?_
      refine mGo.steps 1 (c' := (5, List.drop 25 mC5, [.ref p0, .ref p1, .int p2, .int p3, .int s.1, .int s.2.1, .ref (mP s.2.2 (mP s.2.2 p1 1) (Int32.toNatClampNeg s.2.1))], [.int q14, .int s.2.1, .ref (mP s.2.2 p0 0)], s.2.2)) rfl ?_
      exact t5L4_25 p0 p1 p2 p3 s.2.2 s.1 s.2.1 q14 s.2.1 (mP s.2.2 p0 0) (.ref (mP s.2.2 (mP s.2.2 p1 1) (Int32.toNatClampNeg s.2.1))) rfl hr hC
theorem t5L4l (p0 : Nat) (p1 : Nat) (p2 : Int32) (p3 : Int32) {r : Option Value × mM} (n : Nat) (s : Int32 × Int32 × mM) (o : (Int32 × mM) ⊕ (Int32 × mM)) (hr : mLoop (s5L4 p0 p1 p2 p3) n s = some o) (hC : Sum.elim (fun x : Int32 × mM => ∀ (w0 : Value) (hw0 : mNotL w0 = true) (w1 : Value) (hw1 : mNotL w1 = true) (w2 : Value) (hw2 : mNotL w2 = true) (w3 : Value) (hw3 : mNotL w3 = true) (w5 : Value) (hw5 : mNotL w5 = true) (w6 : Value) (hw6 : mNotL w6 = true), mGo mG (5, List.drop 40 mC5, [w0, w1, w2, w3, .int x.1, w5, w6], [], x.2) r) (fun y : (Int32 × mM) => r = (some (.int y.1), y.2)) o) : ∀ (w6 : Value) (hw6 : mNotL w6 = true), mGo mG (5, List.drop 4 mC5, [.ref p0, .ref p1, .int p2, .int p3, .int s.1, .int s.2.1, w6], [], s.2.2) r :=
  mLoop_go (Hd := (fun s' : Int32 × Int32 × mM => ∀ (w6 : Value) (hw6 : mNotL w6 = true), mGo mG (5, List.drop 4 mC5, [.ref p0, .ref p1, .int p2, .int p3, .int s'.1, .int s'.2.1, w6], [], s'.2.2) r)) (fun s o hb hC => t5L4 p0 p1 p2 p3 s o hb hC) n s o hr hC
def s5 (μ : mM) (a0 : Nat) (a1 : Nat) (a2 : Int32) (a3 : Int32) : Option (Int32 × mM) :=
  (mLoop (s5L4 a0 a1 a2 a3) 1000 (0, 0, μ)).bind fun o18 => Sum.elim (fun x19 => if x19.1 = 0 ∨ x19.1 = 1 then some (x19.1, x19.2) else none) (fun y20 => some y20) o18
set_option maxRecDepth 20000 in
theorem t5 {μ : mM} {a0 : Nat} {a1 : Nat} {a2 : Int32} {a3 : Int32} {o : (Int32 × mM)} (hr : s5 μ a0 a1 a2 a3 = some o) : mEv mG 5 [.ref a0, .ref a1, .int a2, .int a3] μ (some (.int o.1)) (o.2) := by
  obtain ⟨r, hC⟩ : ∃ r : Option Value × mM, r = (some (.int o.1), o.2) := ⟨_, rfl⟩
  show mGo mG (5, List.drop 0 mC5, [.ref a0, .ref a1, .int a2, .int a3, .retAddr 0, .retAddr 0, .retAddr 0], [], μ) (some (.int o.1), o.2)
  rw [← hC]
  unfold s5 at hr
  refine mGo.steps 4 (c' := (5, List.drop 4 mC5, [.ref a0, .ref a1, .int a2, .int a3, .int 0, .int 0, .retAddr 0], [], μ)) rfl ?_
  obtain ⟨o18, h21, hr⟩ := mBi hr
  refine t5L4l a0 a1 a2 a3 1000 (0, 0, μ) o18 h21 ?_ (.retAddr 0) rfl
  cases o18 with
  | inl x19 =>
    show ∀ (w0 : Value) (hw0 : mNotL w0 = true) (w1 : Value) (hw1 : mNotL w1 = true) (w2 : Value) (hw2 : mNotL w2 = true) (w3 : Value) (hw3 : mNotL w3 = true) (w5 : Value) (hw5 : mNotL w5 = true) (w6 : Value) (hw6 : mNotL w6 = true), mGo mG (5, List.drop 40 mC5, [w0, w1, w2, w3, .int x19.1, w5, w6], [], x19.2) r
    intro w0 hw0 w1 hw1 w2 hw2 w3 hw3 w5 hw5 w6 hw6
    replace hr : (_) = some _ := hr
    refine mGo.steps 1 (c' := (5, List.drop 41 mC5, [w0, w1, w2, w3, .int x19.1, w5, w6], [.int x19.1], x19.2)) rfl ?_
    obtain ⟨h22, hr⟩ := mIf hr
    obtain rfl := Option.some.inj hr
    rw [show r = _ from hC]
    exact gZret rfl h22
  | inr y20 =>
    obtain rfl := Option.some.inj hr
    exact hC

/-! 80: TunnelFabric$Tunnel.isOpenVideo()Z -/
def s80_9 (μ : mM) (a0 : Nat) (t0 : Int32) : Option Int32 :=
  if t0 = 0 ∨ t0 = 1 then some t0 else none
set_option maxRecDepth 20000 in
theorem t80_9 (μ : mM) (a0 : Nat) (t0 : Int32) (w0 : Value) (hw0 : mNotL w0 = true) {o : Int32} {r : Option Value × mM} (hr : s80_9 μ a0 t0 = some o) (hC : r = (some (.int o), μ)) : mGo mG (80, List.drop 9 mC80, [w0], [.int t0], μ) r := by
  unfold s80_9 at hr
  obtain ⟨h2, hr⟩ := mIf hr
  obtain rfl := Option.some.inj hr
  rw [show r = _ from hC]
  exact gZret rfl h2
def s80_8 (μ : mM) (a0 : Nat) : Option Int32 :=
  s80_9 μ a0 0
set_option maxRecDepth 20000 in
theorem t80_8 (μ : mM) (a0 : Nat) (w0 : Value) (hw0 : mNotL w0 = true) {o : Int32} {r : Option Value × mM} (hr : s80_8 μ a0 = some o) (hC : r = (some (.int o), μ)) : mGo mG (80, List.drop 8 mC80, [w0], [], μ) r := by
  unfold s80_8 at hr
  refine mGo.steps 1 (c' := (80, List.drop 9 mC80, [w0], [.int 0], μ)) rfl ?_
  exact t80_9 μ a0 0 w0 hw0 hr hC
def s80 (μ : mM) (a0 : Nat) : Option Int32 :=
  if (mS μ a0).1 = 6 then if (mI μ a0 0) = 0 then (s80_8 μ a0) else (if ¬ (mI μ a0 1) = 0 then (s80_8 μ a0) else (s80_9 μ a0 1)) else none
set_option maxRecDepth 20000 in
theorem t80 {μ : mM} {a0 : Nat} {o : Int32} (hr : s80 μ a0 = some o) : mEv mG 80 [.ref a0] μ (some (.int o)) (μ) := by
  obtain ⟨r, hC⟩ : ∃ r : Option Value × mM, r = (some (.int o), μ) := ⟨_, rfl⟩
  show mGo mG (80, List.drop 0 mC80, [.ref a0], [], μ) (some (.int o), μ)
  rw [← hC]
  unfold s80 at hr
  refine mGo.steps 1 (c' := (80, List.drop 1 mC80, [.ref a0], [.ref a0], μ)) rfl ?_
  obtain ⟨h1, hr⟩ := mIf hr
  refine gGet (is := List.drop 2 mC80) (v := .int (mI μ a0 0)) h1 rfl ?_
  rcases mIte hr with ⟨h4, hr⟩ | ⟨h4, hr⟩
  · refine gBrT (p := (mI μ a0 0) = 0) (y := 80) (is := List.drop 3 mC80) (L := [.ref a0]) (st := []) (μ := μ) (t := 18) rfl h4 ?_
    exact t80_8 μ a0 (.ref a0) rfl hr hC
  · refine gBrF (p := (mI μ a0 0) = 0) (y := 80) (is := List.drop 3 mC80) (L := [.ref a0]) (st := []) (μ := μ) (t := 18) rfl h4 ?_
    refine mGo.steps 1 (c' := (80, List.drop 4 mC80, [.ref a0], [.ref a0], μ)) rfl ?_
    refine gGet (is := List.drop 5 mC80) (v := .int (mI μ a0 1)) h1 rfl ?_
    rcases mIte hr with ⟨h3, hr⟩ | ⟨h3, hr⟩
    · refine gBrT (p := ¬ (mI μ a0 1) = 0) (y := 80) (is := List.drop 6 mC80) (L := [.ref a0]) (st := []) (μ := μ) (t := 18) rfl h3 ?_
      exact t80_8 μ a0 (.ref a0) rfl hr hC
    · refine gBrF (p := ¬ (mI μ a0 1) = 0) (y := 80) (is := List.drop 6 mC80) (L := [.ref a0]) (st := []) (μ := μ) (t := 18) rfl h3 ?_
      refine mGo.steps 2 (c' := (80, List.drop 9 mC80, [.ref a0], [.int 1], μ)) rfl ?_
      exact t80_9 μ a0 1 (.ref a0) rfl hr hC

/-! 89: TunnelFabric$Way.hasHop(I)Z -/
def s89_12 (μ : mM) (a0 : Nat) (a1 : Int32) (t0 : Int32) : Option Int32 :=
  if t0 = 0 ∨ t0 = 1 then some t0 else none
set_option maxRecDepth 20000 in
theorem t89_12 (μ : mM) (a0 : Nat) (a1 : Int32) (t0 : Int32) (w0 : Value) (hw0 : mNotL w0 = true) (w1 : Value) (hw1 : mNotL w1 = true) {o : Int32} {r : Option Value × mM} (hr : s89_12 μ a0 a1 t0 = some o) (hC : r = (some (.int o), μ)) : mGo mG (89, List.drop 12 mC89, [w0, w1], [.int t0], μ) r := by
  unfold s89_12 at hr
  obtain ⟨h2, hr⟩ := mIf hr
  obtain rfl := Option.some.inj hr
  rw [show r = _ from hC]
  exact gZret rfl h2
def s89_11 (μ : mM) (a0 : Nat) (a1 : Int32) : Option Int32 :=
  s89_12 μ a0 a1 0
set_option maxRecDepth 20000 in
theorem t89_11 (μ : mM) (a0 : Nat) (a1 : Int32) (w0 : Value) (hw0 : mNotL w0 = true) (w1 : Value) (hw1 : mNotL w1 = true) {o : Int32} {r : Option Value × mM} (hr : s89_11 μ a0 a1 = some o) (hC : r = (some (.int o), μ)) : mGo mG (89, List.drop 11 mC89, [w0, w1], [], μ) r := by
  unfold s89_11 at hr
  refine mGo.steps 1 (c' := (89, List.drop 12 mC89, [w0, w1], [.int 0], μ)) rfl ?_
  exact t89_12 μ a0 a1 0 w0 hw0 w1 hw1 hr hC
def s89 (μ : mM) (a0 : Nat) (a1 : Int32) : Option Int32 :=
  if (mS μ a0).1 = 7 then if (mI μ a0 0) = 0 then (s89_11 μ a0 a1) else (if a1 < 0 then (s89_11 μ a0 a1) else (if (mI μ a0 1) ≤ a1 then (s89_11 μ a0 a1) else (s89_12 μ a0 a1 1))) else none
set_option maxRecDepth 20000 in
theorem t89 {μ : mM} {a0 : Nat} {a1 : Int32} {o : Int32} (hr : s89 μ a0 a1 = some o) : mEv mG 89 [.ref a0, .int a1] μ (some (.int o)) (μ) := by
  obtain ⟨r, hC⟩ : ∃ r : Option Value × mM, r = (some (.int o), μ) := ⟨_, rfl⟩
  show mGo mG (89, List.drop 0 mC89, [.ref a0, .int a1], [], μ) (some (.int o), μ)
  rw [← hC]
  unfold s89 at hr
  refine mGo.steps 1 (c' := (89, List.drop 1 mC89, [.ref a0, .int a1], [.ref a0], μ)) rfl ?_
  obtain ⟨h1, hr⟩ := mIf hr
  refine gGet (is := List.drop 2 mC89) (v := .int (mI μ a0 0)) h1 rfl ?_
  rcases mIte hr with ⟨h5, hr⟩ | ⟨h5, hr⟩
  · refine gBrT (p := (mI μ a0 0) = 0) (y := 89) (is := List.drop 3 mC89) (L := [.ref a0, .int a1]) (st := []) (μ := μ) (t := 23) rfl h5 ?_
    exact t89_11 μ a0 a1 (.ref a0) rfl (.int a1) rfl hr hC
  · refine gBrF (p := (mI μ a0 0) = 0) (y := 89) (is := List.drop 3 mC89) (L := [.ref a0, .int a1]) (st := []) (μ := μ) (t := 23) rfl h5 ?_
    refine mGo.steps 1 (c' := (89, List.drop 4 mC89, [.ref a0, .int a1], [.int a1], μ)) rfl ?_
    rcases mIte hr with ⟨h4, hr⟩ | ⟨h4, hr⟩
    · refine gBrT (p := a1 < 0) (y := 89) (is := List.drop 5 mC89) (L := [.ref a0, .int a1]) (st := []) (μ := μ) (t := 23) rfl h4 ?_
      exact t89_11 μ a0 a1 (.ref a0) rfl (.int a1) rfl hr hC
    · refine gBrF (p := a1 < 0) (y := 89) (is := List.drop 5 mC89) (L := [.ref a0, .int a1]) (st := []) (μ := μ) (t := 23) rfl h4 ?_
      refine mGo.steps 2 (c' := (89, List.drop 7 mC89, [.ref a0, .int a1], [.ref a0, .int a1], μ)) rfl ?_
      refine gGet (is := List.drop 8 mC89) (v := .int (mI μ a0 1)) h1 rfl ?_
      rcases mIte hr with ⟨h3, hr⟩ | ⟨h3, hr⟩
      · refine gBrT (p := (mI μ a0 1) ≤ a1) (y := 89) (is := List.drop 9 mC89) (L := [.ref a0, .int a1]) (st := []) (μ := μ) (t := 23) rfl h3 ?_
        exact t89_11 μ a0 a1 (.ref a0) rfl (.int a1) rfl hr hC
      · refine gBrF (p := (mI μ a0 1) ≤ a1) (y := 89) (is := List.drop 9 mC89) (L := [.ref a0, .int a1]) (st := []) (μ := μ) (t := 23) rfl h3 ?_
        refine mGo.steps 2 (c' := (89, List.drop 12 mC89, [.ref a0, .int a1], [.int 1], μ)) rfl ?_
        exact t89_12 μ a0 a1 1 (.ref a0) rfl (.int a1) rfl hr hC

/-! 93: TunnelFabric$Way.send(II)I -/
def s93 (μ : mM) (a0 : Nat) (a1 : Int32) (a2 : Int32) : Option (Int32 × mM) :=
  if (mS μ a0).1 = 7 then (s89 μ a0 a1).bind fun q2 => if ¬ q2 = 0 then ((s91 μ a0 a1).bind fun q4 => if (mS μ (mP μ a0 8)).1 = 10 ∧ mInb a1 (mS μ (mP μ a0 8)).2 then if (mS μ (mP μ a0 6)).1 = 10 ∧ mInb a1 (mS μ (mP μ a0 6)).2 then if (mS μ (mP μ a0 7)).1 = 10 ∧ mInb a1 (mS μ (mP μ a0 7)).2 then (some (mUI μ (mP μ a0 8) (Int32.toNatClampNeg a1) ((mI μ (mP μ a0 8) (Int32.toNatClampNeg a1)) + (mMax 0 (mMin a2 (mMin (q4 - (mI μ (mP μ a0 8) (Int32.toNatClampNeg a1))) (((mI μ (mP μ a0 6) (Int32.toNatClampNeg a1)) - (mI μ (mP μ a0 7) (Int32.toNatClampNeg a1))) - (mI μ (mP μ a0 8) (Int32.toNatClampNeg a1))))))))).bind fun μ9 => some (mMax 0 (mMin a2 (mMin (q4 - (mI μ (mP μ a0 8) (Int32.toNatClampNeg a1))) (((mI μ (mP μ a0 6) (Int32.toNatClampNeg a1)) - (mI μ (mP μ a0 7) (Int32.toNatClampNeg a1))) - (mI μ (mP μ a0 8) (Int32.toNatClampNeg a1))))), μ9) else none else none else none) else (some (0, μ)) else none
set_option maxRecDepth 20000 in
theorem t93 {μ : mM} {a0 : Nat} {a1 : Int32} {a2 : Int32} {o : (Int32 × mM)} (hr : s93 μ a0 a1 a2 = some o) : mEv mG 93 [.ref a0, .int a1, .int a2] μ (some (.int o.1)) (o.2) := by
  obtain ⟨r, hC⟩ : ∃ r : Option Value × mM, r = (some (.int o.1), o.2) := ⟨_, rfl⟩
  show mGo mG (93, List.drop 0 mC93, [.ref a0, .int a1, .int a2, .retAddr 0, .retAddr 0, .retAddr 0], [], μ) (some (.int o.1), o.2)
  rw [← hC]
  unfold s93 at hr
  refine mGo.steps 2 (c' := (93, List.drop 2 mC93, [.ref a0, .int a1, .int a2, .retAddr 0, .retAddr 0, .retAddr 0], [.int a1, .ref a0], μ)) rfl ?_
  obtain ⟨h1, hr⟩ := mIf hr
  obtain ⟨q2, h3, hr⟩ := mBi hr
  refine gCall (z := 89) (n := 1) (f := 0) (kind := 1) (a := a0) (As := [.int a1]) (y := 93) (is := List.drop 3 mC93) (L := [.ref a0, .int a1, .int a2, .retAddr 0, .retAddr 0, .retAddr 0]) (rest := []) (μ := μ) rfl (by decide) (by decide) ⟨rfl, rfl⟩ rfl h1 (Nat.le_of_ble_eq_true rfl) (Nat.le_of_ble_eq_true rfl) (t89 h3) ?_
  rcases mIte hr with ⟨h10, hr⟩ | ⟨h10, hr⟩
  · refine gBrT (p := ¬ q2 = 0) (y := 93) (is := List.drop 4 mC93) (L := [.ref a0, .int a1, .int a2, .retAddr 0, .retAddr 0, .retAddr 0]) (st := []) (μ := μ) (t := 10) rfl h10 ?_
    refine mGo.steps 2 (c' := (93, List.drop 8 mC93, [.ref a0, .int a1, .int a2, .retAddr 0, .retAddr 0, .retAddr 0], [.int a1, .ref a0], μ)) rfl ?_
    obtain ⟨q4, h5, hr⟩ := mBi hr
    refine gCall (z := 91) (n := 1) (f := 0) (kind := 1) (a := a0) (As := [.int a1]) (y := 93) (is := List.drop 9 mC93) (L := [.ref a0, .int a1, .int a2, .retAddr 0, .retAddr 0, .retAddr 0]) (rest := []) (μ := μ) rfl (by decide) (by decide) ⟨rfl, rfl⟩ rfl h1 (Nat.le_of_ble_eq_true rfl) (Nat.le_of_ble_eq_true rfl) (t91 h5) ?_
    refine mGo.steps 1 (c' := (93, List.drop 10 mC93, [.ref a0, .int a1, .int a2, .retAddr 0, .retAddr 0, .retAddr 0], [.ref a0, .int q4], μ)) rfl ?_
    refine gGet (is := List.drop 11 mC93) (v := .ref (mP μ a0 8)) h1 rfl ?_
    refine mGo.steps 1 (c' := (93, List.drop 12 mC93, [.ref a0, .int a1, .int a2, .retAddr 0, .retAddr 0, .retAddr 0], [.int a1, .ref (mP μ a0 8), .int q4], μ)) rfl ?_
    obtain ⟨h6, hr⟩ := mIf hr
    refine gIald (is := List.drop 13 mC93) h6 ?_
    refine mGo.steps 3 (c' := (93, List.drop 16 mC93, [.ref a0, .int a1, .int a2, .int (q4 - (mI μ (mP μ a0 8) (Int32.toNatClampNeg a1))), .retAddr 0, .retAddr 0], [.ref a0], μ)) rfl ?_
    refine gGet (is := List.drop 17 mC93) (v := .ref (mP μ a0 6)) h1 rfl ?_
    refine mGo.steps 1 (c' := (93, List.drop 18 mC93, [.ref a0, .int a1, .int a2, .int (q4 - (mI μ (mP μ a0 8) (Int32.toNatClampNeg a1))), .retAddr 0, .retAddr 0], [.int a1, .ref (mP μ a0 6)], μ)) rfl ?_
    obtain ⟨h7, hr⟩ := mIf hr
    refine gIald (is := List.drop 19 mC93) h7 ?_
    refine mGo.steps 1 (c' := (93, List.drop 20 mC93, [.ref a0, .int a1, .int a2, .int (q4 - (mI μ (mP μ a0 8) (Int32.toNatClampNeg a1))), .retAddr 0, .retAddr 0], [.ref a0, .int (mI μ (mP μ a0 6) (Int32.toNatClampNeg a1))], μ)) rfl ?_
    refine gGet (is := List.drop 21 mC93) (v := .ref (mP μ a0 7)) h1 rfl ?_
    refine mGo.steps 1 (c' := (93, List.drop 22 mC93, [.ref a0, .int a1, .int a2, .int (q4 - (mI μ (mP μ a0 8) (Int32.toNatClampNeg a1))), .retAddr 0, .retAddr 0], [.int a1, .ref (mP μ a0 7), .int (mI μ (mP μ a0 6) (Int32.toNatClampNeg a1))], μ)) rfl ?_
    obtain ⟨h8, hr⟩ := mIf hr
    refine gIald (is := List.drop 23 mC93) h8 ?_
    refine mGo.steps 2 (c' := (93, List.drop 25 mC93, [.ref a0, .int a1, .int a2, .int (q4 - (mI μ (mP μ a0 8) (Int32.toNatClampNeg a1))), .retAddr 0, .retAddr 0], [.ref a0, .int ((mI μ (mP μ a0 6) (Int32.toNatClampNeg a1)) - (mI μ (mP μ a0 7) (Int32.toNatClampNeg a1)))], μ)) rfl ?_
    refine gGet (is := List.drop 26 mC93) (v := .ref (mP μ a0 8)) h1 rfl ?_
    refine mGo.steps 1 (c' := (93, List.drop 27 mC93, [.ref a0, .int a1, .int a2, .int (q4 - (mI μ (mP μ a0 8) (Int32.toNatClampNeg a1))), .retAddr 0, .retAddr 0], [.int a1, .ref (mP μ a0 8), .int ((mI μ (mP μ a0 6) (Int32.toNatClampNeg a1)) - (mI μ (mP μ a0 7) (Int32.toNatClampNeg a1)))], μ)) rfl ?_
    refine gIald (is := List.drop 28 mC93) h6 ?_
    refine mGo.steps 11 (c' := (93, List.drop 39 mC93, [.ref a0, .int a1, .int a2, .int (q4 - (mI μ (mP μ a0 8) (Int32.toNatClampNeg a1))), .int (((mI μ (mP μ a0 6) (Int32.toNatClampNeg a1)) - (mI μ (mP μ a0 7) (Int32.toNatClampNeg a1))) - (mI μ (mP μ a0 8) (Int32.toNatClampNeg a1))), .int (mMax 0 (mMin a2 (mMin (q4 - (mI μ (mP μ a0 8) (Int32.toNatClampNeg a1))) (((mI μ (mP μ a0 6) (Int32.toNatClampNeg a1)) - (mI μ (mP μ a0 7) (Int32.toNatClampNeg a1))) - (mI μ (mP μ a0 8) (Int32.toNatClampNeg a1))))))], [.ref a0], μ)) rfl ?_
    refine gGet (is := List.drop 40 mC93) (v := .ref (mP μ a0 8)) h1 rfl ?_
    refine mGo.steps 2 (c' := (93, List.drop 42 mC93, [.ref a0, .int a1, .int a2, .int (q4 - (mI μ (mP μ a0 8) (Int32.toNatClampNeg a1))), .int (((mI μ (mP μ a0 6) (Int32.toNatClampNeg a1)) - (mI μ (mP μ a0 7) (Int32.toNatClampNeg a1))) - (mI μ (mP μ a0 8) (Int32.toNatClampNeg a1))), .int (mMax 0 (mMin a2 (mMin (q4 - (mI μ (mP μ a0 8) (Int32.toNatClampNeg a1))) (((mI μ (mP μ a0 6) (Int32.toNatClampNeg a1)) - (mI μ (mP μ a0 7) (Int32.toNatClampNeg a1))) - (mI μ (mP μ a0 8) (Int32.toNatClampNeg a1))))))], [.int a1, .ref (mP μ a0 8), .int a1, .ref (mP μ a0 8)], μ)) rfl ?_
    refine gIald (is := List.drop 43 mC93) h6 ?_
    refine mGo.steps 2 (c' := (93, List.drop 45 mC93, [.ref a0, .int a1, .int a2, .int (q4 - (mI μ (mP μ a0 8) (Int32.toNatClampNeg a1))), .int (((mI μ (mP μ a0 6) (Int32.toNatClampNeg a1)) - (mI μ (mP μ a0 7) (Int32.toNatClampNeg a1))) - (mI μ (mP μ a0 8) (Int32.toNatClampNeg a1))), .int (mMax 0 (mMin a2 (mMin (q4 - (mI μ (mP μ a0 8) (Int32.toNatClampNeg a1))) (((mI μ (mP μ a0 6) (Int32.toNatClampNeg a1)) - (mI μ (mP μ a0 7) (Int32.toNatClampNeg a1))) - (mI μ (mP μ a0 8) (Int32.toNatClampNeg a1))))))], [.int ((mI μ (mP μ a0 8) (Int32.toNatClampNeg a1)) + (mMax 0 (mMin a2 (mMin (q4 - (mI μ (mP μ a0 8) (Int32.toNatClampNeg a1))) (((mI μ (mP μ a0 6) (Int32.toNatClampNeg a1)) - (mI μ (mP μ a0 7) (Int32.toNatClampNeg a1))) - (mI μ (mP μ a0 8) (Int32.toNatClampNeg a1))))))), .int a1, .ref (mP μ a0 8)], μ)) rfl ?_
    replace hr := mBs hr
    refine gIast (is := List.drop 46 mC93) h6 ?_
    let μ9 : mM := mUI μ (mP μ a0 8) (Int32.toNatClampNeg a1) ((mI μ (mP μ a0 8) (Int32.toNatClampNeg a1)) + (mMax 0 (mMin a2 (mMin (q4 - (mI μ (mP μ a0 8) (Int32.toNatClampNeg a1))) (((mI μ (mP μ a0 6) (Int32.toNatClampNeg a1)) - (mI μ (mP μ a0 7) (Int32.toNatClampNeg a1))) - (mI μ (mP μ a0 8) (Int32.toNatClampNeg a1)))))))
    refine mGo.steps 1 (c' := (93, List.drop 47 mC93, [.ref a0, .int a1, .int a2, .int (q4 - (mI μ (mP μ a0 8) (Int32.toNatClampNeg a1))), .int (((mI μ (mP μ a0 6) (Int32.toNatClampNeg a1)) - (mI μ (mP μ a0 7) (Int32.toNatClampNeg a1))) - (mI μ (mP μ a0 8) (Int32.toNatClampNeg a1))), .int (mMax 0 (mMin a2 (mMin (q4 - (mI μ (mP μ a0 8) (Int32.toNatClampNeg a1))) (((mI μ (mP μ a0 6) (Int32.toNatClampNeg a1)) - (mI μ (mP μ a0 7) (Int32.toNatClampNeg a1))) - (mI μ (mP μ a0 8) (Int32.toNatClampNeg a1))))))], [.int (mMax 0 (mMin a2 (mMin (q4 - (mI μ (mP μ a0 8) (Int32.toNatClampNeg a1))) (((mI μ (mP μ a0 6) (Int32.toNatClampNeg a1)) - (mI μ (mP μ a0 7) (Int32.toNatClampNeg a1))) - (mI μ (mP μ a0 8) (Int32.toNatClampNeg a1))))))], μ9)) rfl ?_
    obtain rfl := Option.some.inj hr
    rw [show r = _ from hC]
    exact gIret rfl
  · refine gBrF (p := ¬ q2 = 0) (y := 93) (is := List.drop 4 mC93) (L := [.ref a0, .int a1, .int a2, .retAddr 0, .retAddr 0, .retAddr 0]) (st := []) (μ := μ) (t := 10) rfl h10 ?_
    refine mGo.steps 1 (c' := (93, List.drop 5 mC93, [.ref a0, .int a1, .int a2, .retAddr 0, .retAddr 0, .retAddr 0], [.int 0], μ)) rfl ?_
    obtain rfl := Option.some.inj hr
    rw [show r = _ from hC]
    exact gIret rfl

/-! 6: TunnelFabric$Clock.sendVideo(LTunnelFabric$Fabric;I)V -/
def s6L2_31 (p0 : Nat) (p1 : Nat) (p2 : Int32) (μ : mM) (v3 : Int32) : Option ((Int32 × mM) ⊕ ((mM) ⊕ mM)) :=
  some (.inl (v3 + 1, μ))
set_option maxRecDepth 20000 in
theorem t6L2_31 (p0 : Nat) (p1 : Nat) (p2 : Int32) (μ : mM) (v3 : Int32) (w4 : Value) (hw4 : mNotL w4 = true) {o : ((Int32 × mM) ⊕ ((mM) ⊕ mM))} {r : Option Value × mM} (hr : s6L2_31 p0 p1 p2 μ v3 = some o) (hC : Sum.elim (fun s' : Int32 × mM => ∀ (w4 : Value) (hw4 : mNotL w4 = true), mGo mG (6, List.drop 2 mC6, [.ref p0, .ref p1, .int p2, .int s'.1, w4], [], s'.2) r) (Sum.elim (fun x : mM => ∀ (w0 : Value) (hw0 : mNotL w0 = true) (w1 : Value) (hw1 : mNotL w1 = true) (w2 : Value) (hw2 : mNotL w2 = true) (w3 : Value) (hw3 : mNotL w3 = true) (w4 : Value) (hw4 : mNotL w4 = true), mGo mG (6, List.drop 33 mC6, [w0, w1, w2, w3, w4], [], x) r) (fun y : mM => r = (none, y))) o) : mGo mG (6, List.drop 31 mC6, [.ref p0, .ref p1, .int p2, .int v3, w4], [], μ) r := by
  unfold s6L2_31 at hr
  refine mGo.steps 2 (c' := (6, List.drop 2 mC6, [.ref p0, .ref p1, .int p2, .int (v3 + 1), w4], [], μ)) rfl ?_
  obtain rfl := Option.some.inj hr
  exact hC w4 hw4
def s6L2 (p0 : Nat) (p1 : Nat) (p2 : Int32) (s : Int32 × mM) : Option ((Int32 × mM) ⊕ ((mM) ⊕ mM)) :=
  if 10 ≤ s.1 then (some (.inr (.inl s.2))) else (if (mS s.2 p1).1 = 1 then if (mS s.2 (mP s.2 p1 1)).1 = 20 + 6 ∧ mInb s.1 (mS s.2 (mP s.2 p1 1)).2 then if (mS s.2 (mP s.2 (mP s.2 p1 1) (Int32.toNatClampNeg s.1))).1 = 6 then (s80 s.2 (mP s.2 (mP s.2 p1 1) (Int32.toNatClampNeg s.1))).bind fun q4 => if q4 = 0 then (s6L2_31 p0 p1 p2 s.2 s.1) else (if (mS s.2 p0).1 = 0 then (s78 s.2 (mP s.2 (mP s.2 p1 1) (Int32.toNatClampNeg s.1)) p2).bind fun q7 => if (mS s.2 (mP s.2 p0 0)).1 = 10 ∧ mInb s.1 (mS s.2 (mP s.2 p0 0)).2 then if (mS s.2 q7).1 = 7 then (s93 s.2 q7 (mI s.2 (mP s.2 p0 0) (Int32.toNatClampNeg s.1)) (mMin (mI s.2 p0 1) (mI s.2 (mP s.2 (mP s.2 p1 1) (Int32.toNatClampNeg s.1)) 4))).bind fun q11 => if (mS q11.2 p0).1 = 0 then (some (mUI q11.2 p0 1 ((mI s.2 p0 1) - q11.1))).bind fun μ14 => s6L2_31 p0 p1 p2 μ14 s.1 else none else none else none else none) else none else none else none)
set_option maxRecDepth 20000 in
theorem t6L2 (p0 : Nat) (p1 : Nat) (p2 : Int32) {r : Option Value × mM} (s : Int32 × mM) (o : ((Int32 × mM) ⊕ ((mM) ⊕ mM))) (hr : s6L2 p0 p1 p2 s = some o) (hC : Sum.elim (fun s' : Int32 × mM => ∀ (w4 : Value) (hw4 : mNotL w4 = true), mGo mG (6, List.drop 2 mC6, [.ref p0, .ref p1, .int p2, .int s'.1, w4], [], s'.2) r) (Sum.elim (fun x : mM => ∀ (w0 : Value) (hw0 : mNotL w0 = true) (w1 : Value) (hw1 : mNotL w1 = true) (w2 : Value) (hw2 : mNotL w2 = true) (w3 : Value) (hw3 : mNotL w3 = true) (w4 : Value) (hw4 : mNotL w4 = true), mGo mG (6, List.drop 33 mC6, [w0, w1, w2, w3, w4], [], x) r) (fun y : mM => r = (none, y))) o) : ∀ (w4 : Value) (hw4 : mNotL w4 = true), mGo mG (6, List.drop 2 mC6, [.ref p0, .ref p1, .int p2, .int s.1, w4], [], s.2) r := by
  intro w4 hw4
  unfold s6L2 at hr
  refine mGo.steps 2 (c' := (6, List.drop 4 mC6, [.ref p0, .ref p1, .int p2, .int s.1, w4], [.int 10, .int s.1], s.2)) rfl ?_
  rcases mIte hr with ⟨h16, hr⟩ | ⟨h16, hr⟩
  · refine gBrT (p := 10 ≤ s.1) (y := 6) (is := List.drop 5 mC6) (L := [.ref p0, .ref p1, .int p2, .int s.1, w4]) (st := []) (μ := s.2) (t := 66) rfl h16 ?_
    obtain rfl := Option.some.inj hr
    exact hC (.ref p0) rfl (.ref p1) rfl (.int p2) rfl (.int s.1) rfl w4 hw4
  · refine gBrF (p := 10 ≤ s.1) (y := 6) (is := List.drop 5 mC6) (L := [.ref p0, .ref p1, .int p2, .int s.1, w4]) (st := []) (μ := s.2) (t := 66) rfl h16 ?_
    refine mGo.steps 1 (c' := (6, List.drop 6 mC6, [.ref p0, .ref p1, .int p2, .int s.1, w4], [.ref p1], s.2)) rfl ?_
    obtain ⟨h1, hr⟩ := mIf hr
    refine gGet (is := List.drop 7 mC6) (v := .ref (mP s.2 p1 1)) h1 rfl ?_
    refine mGo.steps 1 (c' := (6, List.drop 8 mC6, [.ref p0, .ref p1, .int p2, .int s.1, w4], [.int s.1, .ref (mP s.2 p1 1)], s.2)) rfl ?_
    obtain ⟨h2, hr⟩ := mIf hr
    refine gAald (is := List.drop 9 mC6) h2 ?_
    refine mGo.steps 2 (c' := (6, List.drop 11 mC6, [.ref p0, .ref p1, .int p2, .int s.1, .ref (mP s.2 (mP s.2 p1 1) (Int32.toNatClampNeg s.1))], [.ref (mP s.2 (mP s.2 p1 1) (Int32.toNatClampNeg s.1))], s.2)) rfl ?_
    obtain ⟨h3, hr⟩ := mIf hr
    obtain ⟨q4, h5, hr⟩ := mBi hr
    refine gCall (z := 80) (n := 0) (f := 0) (kind := 1) (a := (mP s.2 (mP s.2 p1 1) (Int32.toNatClampNeg s.1))) (As := []) (y := 6) (is := List.drop 12 mC6) (L := [.ref p0, .ref p1, .int p2, .int s.1, .ref (mP s.2 (mP s.2 p1 1) (Int32.toNatClampNeg s.1))]) (rest := []) (μ := s.2) rfl (by decide) (by decide) ⟨rfl, rfl⟩ rfl h3 (Nat.le_of_ble_eq_true rfl) (Nat.le_of_ble_eq_true rfl) (t80 h5) ?_
    rcases mIte hr with ⟨h15, hr⟩ | ⟨h15, hr⟩
    · refine gBrT (p := q4 = 0) (y := 6) (is := List.drop 13 mC6) (L := [.ref p0, .ref p1, .int p2, .int s.1, .ref (mP s.2 (mP s.2 p1 1) (Int32.toNatClampNeg s.1))]) (st := []) (μ := s.2) (t := 60) rfl h15 ?_
      exact t6L2_31 p0 p1 p2 s.2 s.1 (.ref (mP s.2 (mP s.2 p1 1) (Int32.toNatClampNeg s.1))) rfl hr hC
    · refine gBrF (p := q4 = 0) (y := 6) (is := List.drop 13 mC6) (L := [.ref p0, .ref p1, .int p2, .int s.1, .ref (mP s.2 (mP s.2 p1 1) (Int32.toNatClampNeg s.1))]) (st := []) (μ := s.2) (t := 60) rfl h15 ?_
      refine mGo.steps 2 (c' := (6, List.drop 15 mC6, [.ref p0, .ref p1, .int p2, .int s.1, .ref (mP s.2 (mP s.2 p1 1) (Int32.toNatClampNeg s.1))], [.ref p0, .ref p0], s.2)) rfl ?_
      obtain ⟨h6, hr⟩ := mIf hr
      refine gGet (is := List.drop 16 mC6) (v := .int (mI s.2 p0 1)) h6 rfl ?_
      refine mGo.steps 2 (c' := (6, List.drop 18 mC6, [.ref p0, .ref p1, .int p2, .int s.1, .ref (mP s.2 (mP s.2 p1 1) (Int32.toNatClampNeg s.1))], [.int p2, .ref (mP s.2 (mP s.2 p1 1) (Int32.toNatClampNeg s.1)), .int (mI s.2 p0 1), .ref p0], s.2)) rfl ?_
      obtain ⟨q7, h8, hr⟩ := mBi hr
      refine gCall (z := 78) (n := 1) (f := 0) (kind := 1) (a := (mP s.2 (mP s.2 p1 1) (Int32.toNatClampNeg s.1))) (As := [.int p2]) (y := 6) (is := List.drop 19 mC6) (L := [.ref p0, .ref p1, .int p2, .int s.1, .ref (mP s.2 (mP s.2 p1 1) (Int32.toNatClampNeg s.1))]) (rest := [.int (mI s.2 p0 1), .ref p0]) (μ := s.2) rfl (by decide) (by decide) ⟨rfl, rfl⟩ rfl h3 (Nat.le_of_ble_eq_true rfl) (Nat.le_of_ble_eq_true rfl) (t78 h8) ?_
      refine mGo.steps 1 (c' := (6, List.drop 20 mC6, [.ref p0, .ref p1, .int p2, .int s.1, .ref (mP s.2 (mP s.2 p1 1) (Int32.toNatClampNeg s.1))], [.ref p0, .ref q7, .int (mI s.2 p0 1), .ref p0], s.2)) rfl ?_
      refine gGet (is := List.drop 21 mC6) (v := .ref (mP s.2 p0 0)) h6 rfl ?_
      refine mGo.steps 1 (c' := (6, List.drop 22 mC6, [.ref p0, .ref p1, .int p2, .int s.1, .ref (mP s.2 (mP s.2 p1 1) (Int32.toNatClampNeg s.1))], [.int s.1, .ref (mP s.2 p0 0), .ref q7, .int (mI s.2 p0 1), .ref p0], s.2)) rfl ?_
      obtain ⟨h9, hr⟩ := mIf hr
      refine gIald (is := List.drop 23 mC6) h9 ?_
      refine mGo.steps 1 (c' := (6, List.drop 24 mC6, [.ref p0, .ref p1, .int p2, .int s.1, .ref (mP s.2 (mP s.2 p1 1) (Int32.toNatClampNeg s.1))], [.ref p0, .int (mI s.2 (mP s.2 p0 0) (Int32.toNatClampNeg s.1)), .ref q7, .int (mI s.2 p0 1), .ref p0], s.2)) rfl ?_
      refine gGet (is := List.drop 25 mC6) (v := .int (mI s.2 p0 1)) h6 rfl ?_
      refine mGo.steps 1 (c' := (6, List.drop 26 mC6, [.ref p0, .ref p1, .int p2, .int s.1, .ref (mP s.2 (mP s.2 p1 1) (Int32.toNatClampNeg s.1))], [.ref (mP s.2 (mP s.2 p1 1) (Int32.toNatClampNeg s.1)), .int (mI s.2 p0 1), .int (mI s.2 (mP s.2 p0 0) (Int32.toNatClampNeg s.1)), .ref q7, .int (mI s.2 p0 1), .ref p0], s.2)) rfl ?_
      refine gGet (is := List.drop 27 mC6) (v := .int (mI s.2 (mP s.2 (mP s.2 p1 1) (Int32.toNatClampNeg s.1)) 4)) h3 rfl ?_
      refine mGo.steps 1 (c' := (6, List.drop 28 mC6, [.ref p0, .ref p1, .int p2, .int s.1, .ref (mP s.2 (mP s.2 p1 1) (Int32.toNatClampNeg s.1))], [.int (mMin (mI s.2 p0 1) (mI s.2 (mP s.2 (mP s.2 p1 1) (Int32.toNatClampNeg s.1)) 4)), .int (mI s.2 (mP s.2 p0 0) (Int32.toNatClampNeg s.1)), .ref q7, .int (mI s.2 p0 1), .ref p0], s.2)) rfl ?_
      obtain ⟨h10, hr⟩ := mIf hr
      obtain ⟨q11, h12, hr⟩ := mBi hr
      refine gCall (z := 93) (n := 2) (f := 0) (kind := 1) (a := q7) (As := [.int (mI s.2 (mP s.2 p0 0) (Int32.toNatClampNeg s.1)), .int (mMin (mI s.2 p0 1) (mI s.2 (mP s.2 (mP s.2 p1 1) (Int32.toNatClampNeg s.1)) 4))]) (y := 6) (is := List.drop 29 mC6) (L := [.ref p0, .ref p1, .int p2, .int s.1, .ref (mP s.2 (mP s.2 p1 1) (Int32.toNatClampNeg s.1))]) (rest := [.int (mI s.2 p0 1), .ref p0]) (μ := s.2) rfl (by decide) (by decide) ⟨rfl, rfl⟩ rfl h10 (Nat.le_of_ble_eq_true rfl) (Nat.le_of_ble_eq_true rfl) (t93 h12) ?_
      refine mGo.steps 1 (c' := (6, List.drop 30 mC6, [.ref p0, .ref p1, .int p2, .int s.1, .ref (mP s.2 (mP s.2 p1 1) (Int32.toNatClampNeg s.1))], [.int ((mI s.2 p0 1) - q11.1), .ref p0], q11.2)) rfl ?_
      obtain ⟨h13, hr⟩ := mIf hr
      replace hr := mBs hr
      refine gPut (is := List.drop 31 mC6) (μ' := mUI q11.2 p0 1 ((mI s.2 p0 1) - q11.1)) h13 rfl ?_
      let μ14 : mM := mUI q11.2 p0 1 ((mI s.2 p0 1) - q11.1)
      exact t6L2_31 p0 p1 p2 μ14 s.1 (.ref (mP s.2 (mP s.2 p1 1) (Int32.toNatClampNeg s.1))) rfl hr hC
theorem t6L2l (p0 : Nat) (p1 : Nat) (p2 : Int32) {r : Option Value × mM} (n : Nat) (s : Int32 × mM) (o : (mM) ⊕ mM) (hr : mLoop (s6L2 p0 p1 p2) n s = some o) (hC : Sum.elim (fun x : mM => ∀ (w0 : Value) (hw0 : mNotL w0 = true) (w1 : Value) (hw1 : mNotL w1 = true) (w2 : Value) (hw2 : mNotL w2 = true) (w3 : Value) (hw3 : mNotL w3 = true) (w4 : Value) (hw4 : mNotL w4 = true), mGo mG (6, List.drop 33 mC6, [w0, w1, w2, w3, w4], [], x) r) (fun y : mM => r = (none, y)) o) : ∀ (w4 : Value) (hw4 : mNotL w4 = true), mGo mG (6, List.drop 2 mC6, [.ref p0, .ref p1, .int p2, .int s.1, w4], [], s.2) r :=
  mLoop_go (Hd := (fun s' : Int32 × mM => ∀ (w4 : Value) (hw4 : mNotL w4 = true), mGo mG (6, List.drop 2 mC6, [.ref p0, .ref p1, .int p2, .int s'.1, w4], [], s'.2) r)) (fun s o hb hC => t6L2 p0 p1 p2 s o hb hC) n s o hr hC
def s6 (μ : mM) (a0 : Nat) (a1 : Nat) (a2 : Int32) : Option mM :=
  (mLoop (s6L2 a0 a1 a2) 1000 (0, μ)).bind fun o17 => Sum.elim (fun x18 => some x18) (fun y19 => some y19) o17
set_option maxRecDepth 20000 in
theorem t6 {μ : mM} {a0 : Nat} {a1 : Nat} {a2 : Int32} {o : mM} (hr : s6 μ a0 a1 a2 = some o) : mEv mG 6 [.ref a0, .ref a1, .int a2] μ (none) (o) := by
  obtain ⟨r, hC⟩ : ∃ r : Option Value × mM, r = (none, o) := ⟨_, rfl⟩
  show mGo mG (6, List.drop 0 mC6, [.ref a0, .ref a1, .int a2, .retAddr 0, .retAddr 0], [], μ) (none, o)
  rw [← hC]
  unfold s6 at hr
  refine mGo.steps 2 (c' := (6, List.drop 2 mC6, [.ref a0, .ref a1, .int a2, .int 0, .retAddr 0], [], μ)) rfl ?_
  obtain ⟨o17, h20, hr⟩ := mBi hr
  refine t6L2l a0 a1 a2 1000 (0, μ) o17 h20 ?_ (.retAddr 0) rfl
  cases o17 with
  | inl x18 =>
    show ∀ (w0 : Value) (hw0 : mNotL w0 = true) (w1 : Value) (hw1 : mNotL w1 = true) (w2 : Value) (hw2 : mNotL w2 = true) (w3 : Value) (hw3 : mNotL w3 = true) (w4 : Value) (hw4 : mNotL w4 = true), mGo mG (6, List.drop 33 mC6, [w0, w1, w2, w3, w4], [], x18) r
    intro w0 hw0 w1 hw1 w2 hw2 w3 hw3 w4 hw4
    replace hr : (_) = some _ := hr
    obtain rfl := Option.some.inj hr
    rw [show r = _ from hC]
    exact gVret rfl
  | inr y19 =>
    obtain rfl := Option.some.inj hr
    exact hC

/-! 81: TunnelFabric$Tunnel.takesTurns()Z -/
def s81_9 (μ : mM) (a0 : Nat) (t0 : Int32) : Option Int32 :=
  if t0 = 0 ∨ t0 = 1 then some t0 else none
set_option maxRecDepth 20000 in
theorem t81_9 (μ : mM) (a0 : Nat) (t0 : Int32) (w0 : Value) (hw0 : mNotL w0 = true) {o : Int32} {r : Option Value × mM} (hr : s81_9 μ a0 t0 = some o) (hC : r = (some (.int o), μ)) : mGo mG (81, List.drop 9 mC81, [w0], [.int t0], μ) r := by
  unfold s81_9 at hr
  obtain ⟨h2, hr⟩ := mIf hr
  obtain rfl := Option.some.inj hr
  rw [show r = _ from hC]
  exact gZret rfl h2
def s81_8 (μ : mM) (a0 : Nat) : Option Int32 :=
  s81_9 μ a0 0
set_option maxRecDepth 20000 in
theorem t81_8 (μ : mM) (a0 : Nat) (w0 : Value) (hw0 : mNotL w0 = true) {o : Int32} {r : Option Value × mM} (hr : s81_8 μ a0 = some o) (hC : r = (some (.int o), μ)) : mGo mG (81, List.drop 8 mC81, [w0], [], μ) r := by
  unfold s81_8 at hr
  refine mGo.steps 1 (c' := (81, List.drop 9 mC81, [w0], [.int 0], μ)) rfl ?_
  exact t81_9 μ a0 0 w0 hw0 hr hC
def s81 (μ : mM) (a0 : Nat) : Option Int32 :=
  if (mS μ a0).1 = 6 then if (mI μ a0 0) = 0 then (s81_8 μ a0) else (if (mI μ a0 1) = 0 then (s81_8 μ a0) else (s81_9 μ a0 1)) else none
set_option maxRecDepth 20000 in
theorem t81 {μ : mM} {a0 : Nat} {o : Int32} (hr : s81 μ a0 = some o) : mEv mG 81 [.ref a0] μ (some (.int o)) (μ) := by
  obtain ⟨r, hC⟩ : ∃ r : Option Value × mM, r = (some (.int o), μ) := ⟨_, rfl⟩
  show mGo mG (81, List.drop 0 mC81, [.ref a0], [], μ) (some (.int o), μ)
  rw [← hC]
  unfold s81 at hr
  refine mGo.steps 1 (c' := (81, List.drop 1 mC81, [.ref a0], [.ref a0], μ)) rfl ?_
  obtain ⟨h1, hr⟩ := mIf hr
  refine gGet (is := List.drop 2 mC81) (v := .int (mI μ a0 0)) h1 rfl ?_
  rcases mIte hr with ⟨h4, hr⟩ | ⟨h4, hr⟩
  · refine gBrT (p := (mI μ a0 0) = 0) (y := 81) (is := List.drop 3 mC81) (L := [.ref a0]) (st := []) (μ := μ) (t := 18) rfl h4 ?_
    exact t81_8 μ a0 (.ref a0) rfl hr hC
  · refine gBrF (p := (mI μ a0 0) = 0) (y := 81) (is := List.drop 3 mC81) (L := [.ref a0]) (st := []) (μ := μ) (t := 18) rfl h4 ?_
    refine mGo.steps 1 (c' := (81, List.drop 4 mC81, [.ref a0], [.ref a0], μ)) rfl ?_
    refine gGet (is := List.drop 5 mC81) (v := .int (mI μ a0 1)) h1 rfl ?_
    rcases mIte hr with ⟨h3, hr⟩ | ⟨h3, hr⟩
    · refine gBrT (p := (mI μ a0 1) = 0) (y := 81) (is := List.drop 6 mC81) (L := [.ref a0]) (st := []) (μ := μ) (t := 18) rfl h3 ?_
      exact t81_8 μ a0 (.ref a0) rfl hr hC
    · refine gBrF (p := (mI μ a0 1) = 0) (y := 81) (is := List.drop 6 mC81) (L := [.ref a0]) (st := []) (μ := μ) (t := 18) rfl h3 ?_
      refine mGo.steps 2 (c' := (81, List.drop 9 mC81, [.ref a0], [.int 1], μ)) rfl ?_
      exact t81_9 μ a0 1 (.ref a0) rfl hr hC

/-! 82: TunnelFabric$Tunnel.weight()I -/
def s82_7 (μ : mM) (a0 : Nat) (t0 : Int32) : Option Int32 :=
  some t0
set_option maxRecDepth 20000 in
theorem t82_7 (μ : mM) (a0 : Nat) (t0 : Int32) (w0 : Value) (hw0 : mNotL w0 = true) {o : Int32} {r : Option Value × mM} (hr : s82_7 μ a0 t0 = some o) (hC : r = (some (.int o), μ)) : mGo mG (82, List.drop 7 mC82, [w0], [.int t0], μ) r := by
  unfold s82_7 at hr
  obtain rfl := Option.some.inj hr
  rw [show r = _ from hC]
  exact gIret rfl
def s82 (μ : mM) (a0 : Nat) : Option Int32 :=
  if (mS μ a0).1 = 6 then if ¬ (mI μ a0 1) = 1 then (s82_7 μ a0 1) else (s82_7 μ a0 2) else none
set_option maxRecDepth 20000 in
theorem t82 {μ : mM} {a0 : Nat} {o : Int32} (hr : s82 μ a0 = some o) : mEv mG 82 [.ref a0] μ (some (.int o)) (μ) := by
  obtain ⟨r, hC⟩ : ∃ r : Option Value × mM, r = (some (.int o), μ) := ⟨_, rfl⟩
  show mGo mG (82, List.drop 0 mC82, [.ref a0], [], μ) (some (.int o), μ)
  rw [← hC]
  unfold s82 at hr
  refine mGo.steps 1 (c' := (82, List.drop 1 mC82, [.ref a0], [.ref a0], μ)) rfl ?_
  obtain ⟨h1, hr⟩ := mIf hr
  refine gGet (is := List.drop 2 mC82) (v := .int (mI μ a0 1)) h1 rfl ?_
  refine mGo.steps 1 (c' := (82, List.drop 3 mC82, [.ref a0], [.int 1, .int (mI μ a0 1)], μ)) rfl ?_
  rcases mIte hr with ⟨h2, hr⟩ | ⟨h2, hr⟩
  · refine gBrT (p := ¬ (mI μ a0 1) = 1) (y := 82) (is := List.drop 4 mC82) (L := [.ref a0]) (st := []) (μ := μ) (t := 12) rfl h2 ?_
    refine mGo.steps 1 (c' := (82, List.drop 7 mC82, [.ref a0], [.int 1], μ)) rfl ?_
    exact t82_7 μ a0 1 (.ref a0) rfl hr hC
  · refine gBrF (p := ¬ (mI μ a0 1) = 1) (y := 82) (is := List.drop 4 mC82) (L := [.ref a0]) (st := []) (μ := μ) (t := 12) rfl h2 ?_
    refine mGo.steps 2 (c' := (82, List.drop 7 mC82, [.ref a0], [.int 2], μ)) rfl ?_
    exact t82_7 μ a0 2 (.ref a0) rfl hr hC

/-! 7: TunnelFabric$Clock.sendByTurns(LTunnelFabric$Fabric;II)I -/
def s7L8_73 (p0 : Nat) (p1 : Nat) (p2 : Int32) (μ : mM) (v5 : Int32) (v6 : Int32) (v7 : Int32) (t0 : Int32) : Option ((Int32 × Int32 × Int32 × Int32 × mM) ⊕ ((Int32 × mM) ⊕ (Int32 × mM))) :=
  some (.inl (t0, v5, v6, v7 + 1, μ))
set_option maxRecDepth 20000 in
theorem t7L8_73 (p0 : Nat) (p1 : Nat) (p2 : Int32) (μ : mM) (v5 : Int32) (v6 : Int32) (v7 : Int32) (t0 : Int32) (w3 : Value) (hw3 : mNotL w3 = true) (w4 : Value) (hw4 : mNotL w4 = true) (w8 : Value) (hw8 : mNotL w8 = true) (w9 : Value) (hw9 : mNotL w9 = true) {o : ((Int32 × Int32 × Int32 × Int32 × mM) ⊕ ((Int32 × mM) ⊕ (Int32 × mM)))} {r : Option Value × mM} (hr : s7L8_73 p0 p1 p2 μ v5 v6 v7 t0 = some o) (hC : Sum.elim (fun s' : Int32 × Int32 × Int32 × Int32 × mM => ∀ (w3 : Value) (hw3 : mNotL w3 = true) (w8 : Value) (hw8 : mNotL w8 = true) (w9 : Value) (hw9 : mNotL w9 = true), mGo mG (7, List.drop 8 mC7, [.ref p0, .ref p1, .int p2, w3, .int s'.1, .int s'.2.1, .int s'.2.2.1, .int s'.2.2.2.1, w8, w9], [], s'.2.2.2.2) r) (Sum.elim (fun x : Int32 × mM => ∀ (w0 : Value) (hw0 : mNotL w0 = true) (w1 : Value) (hw1 : mNotL w1 = true) (w2 : Value) (hw2 : mNotL w2 = true) (w3 : Value) (hw3 : mNotL w3 = true) (w5 : Value) (hw5 : mNotL w5 = true) (w6 : Value) (hw6 : mNotL w6 = true) (w7 : Value) (hw7 : mNotL w7 = true) (w8 : Value) (hw8 : mNotL w8 = true) (w9 : Value) (hw9 : mNotL w9 = true), mGo mG (7, List.drop 76 mC7, [w0, w1, w2, w3, .int x.1, w5, w6, w7, w8, w9], [], x.2) r) (fun y : (Int32 × mM) => r = (some (.int y.1), y.2))) o) : mGo mG (7, List.drop 73 mC7, [.ref p0, .ref p1, .int p2, w3, w4, .int v5, .int v6, .int v7, w8, w9], [.int t0], μ) r := by
  unfold s7L8_73 at hr
  refine gSt1 (L := [.ref p0, .ref p1, .int p2, w3, w4, .int v5, .int v6, .int v7, w8, w9]) (q := 4) (w := .int t0) (is := List.drop 74 mC7) (st := []) (μ := μ) rfl (Nat.le_of_ble_eq_true rfl) hw3 ?_
  refine mGo.steps 2 (c' := (7, List.drop 8 mC7, [.ref p0, .ref p1, .int p2, w3, .int t0, .int v5, .int v6, .int (v7 + 1), w8, w9], [], μ)) rfl ?_
  obtain rfl := Option.some.inj hr
  exact hC w3 hw3 w8 hw8 w9 hw9
def s7L8_67 (p0 : Nat) (p1 : Nat) (p2 : Int32) (μ : mM) (v4 : Int32) (v5 : Int32) (v7 : Int32) (v9 : Int32) (t0 : Int32) : Option ((Int32 × Int32 × Int32 × Int32 × mM) ⊕ ((Int32 × mM) ⊕ (Int32 × mM))) :=
  if v9 ≤ 0 then (s7L8_73 p0 p1 p2 μ v5 t0 v7 v4) else (s7L8_73 p0 p1 p2 μ v5 t0 v7 v5)
set_option maxRecDepth 20000 in
theorem t7L8_67 (p0 : Nat) (p1 : Nat) (p2 : Int32) (μ : mM) (v4 : Int32) (v5 : Int32) (v7 : Int32) (v9 : Int32) (t0 : Int32) (w3 : Value) (hw3 : mNotL w3 = true) (w6 : Value) (hw6 : mNotL w6 = true) (w8 : Value) (hw8 : mNotL w8 = true) {o : ((Int32 × Int32 × Int32 × Int32 × mM) ⊕ ((Int32 × mM) ⊕ (Int32 × mM)))} {r : Option Value × mM} (hr : s7L8_67 p0 p1 p2 μ v4 v5 v7 v9 t0 = some o) (hC : Sum.elim (fun s' : Int32 × Int32 × Int32 × Int32 × mM => ∀ (w3 : Value) (hw3 : mNotL w3 = true) (w8 : Value) (hw8 : mNotL w8 = true) (w9 : Value) (hw9 : mNotL w9 = true), mGo mG (7, List.drop 8 mC7, [.ref p0, .ref p1, .int p2, w3, .int s'.1, .int s'.2.1, .int s'.2.2.1, .int s'.2.2.2.1, w8, w9], [], s'.2.2.2.2) r) (Sum.elim (fun x : Int32 × mM => ∀ (w0 : Value) (hw0 : mNotL w0 = true) (w1 : Value) (hw1 : mNotL w1 = true) (w2 : Value) (hw2 : mNotL w2 = true) (w3 : Value) (hw3 : mNotL w3 = true) (w5 : Value) (hw5 : mNotL w5 = true) (w6 : Value) (hw6 : mNotL w6 = true) (w7 : Value) (hw7 : mNotL w7 = true) (w8 : Value) (hw8 : mNotL w8 = true) (w9 : Value) (hw9 : mNotL w9 = true), mGo mG (7, List.drop 76 mC7, [w0, w1, w2, w3, .int x.1, w5, w6, w7, w8, w9], [], x.2) r) (fun y : (Int32 × mM) => r = (some (.int y.1), y.2))) o) : mGo mG (7, List.drop 67 mC7, [.ref p0, .ref p1, .int p2, w3, .int v4, .int v5, w6, .int v7, w8, .int v9], [.int t0], μ) r := by
  unfold s7L8_67 at hr
  refine mGo.steps 2 (c' := (7, List.drop 69 mC7, [.ref p0, .ref p1, .int p2, w3, .int v4, .int v5, .int t0, .int v7, w8, .int v9], [.int v9], μ)) rfl ?_
  rcases mIte hr with ⟨h9, hr⟩ | ⟨h9, hr⟩
  · refine gBrT (p := v9 ≤ 0) (y := 7) (is := List.drop 70 mC7) (L := [.ref p0, .ref p1, .int p2, w3, .int v4, .int v5, .int t0, .int v7, w8, .int v9]) (st := []) (μ := μ) (t := 145) rfl h9 ?_
    refine mGo.steps 1 (c' := (7, List.drop 73 mC7, [.ref p0, .ref p1, .int p2, w3, .int v4, .int v5, .int t0, .int v7, w8, .int v9], [.int v4], μ)) rfl ?_
    exact t7L8_73 p0 p1 p2 μ v5 t0 v7 v4 w3 hw3 (.int v4) rfl w8 hw8 (.int v9) rfl hr hC
  · refine gBrF (p := v9 ≤ 0) (y := 7) (is := List.drop 70 mC7) (L := [.ref p0, .ref p1, .int p2, w3, .int v4, .int v5, .int t0, .int v7, w8, .int v9]) (st := []) (μ := μ) (t := 145) rfl h9 ?_
    refine mGo.steps 2 (c' := (7, List.drop 73 mC7, [.ref p0, .ref p1, .int p2, w3, .int v4, .int v5, .int t0, .int v7, w8, .int v9], [.int v5], μ)) rfl ?_
    exact t7L8_73 p0 p1 p2 μ v5 t0 v7 v5 w3 hw3 (.int v4) rfl w8 hw8 (.int v9) rfl hr hC
def s7L8_53 (p0 : Nat) (p1 : Nat) (p2 : Int32) (μ : mM) (v4 : Int32) (v5 : Int32) (v6 : Int32) (v7 : Int32) (t0 : Int32) : Option ((Int32 × Int32 × Int32 × Int32 × mM) ⊕ ((Int32 × mM) ⊕ (Int32 × mM))) :=
  if (mS μ p0).1 = 0 then (some (mUI μ p0 1 ((mI μ p0 1) - t0))).bind fun μ8 => if t0 ≤ 0 then (s7L8_67 p0 p1 p2 μ8 v4 v5 v7 t0 (v6 + 1)) else (s7L8_67 p0 p1 p2 μ8 v4 v5 v7 t0 0) else none
set_option maxRecDepth 20000 in
theorem t7L8_53 (p0 : Nat) (p1 : Nat) (p2 : Int32) (μ : mM) (v4 : Int32) (v5 : Int32) (v6 : Int32) (v7 : Int32) (t0 : Int32) (w3 : Value) (hw3 : mNotL w3 = true) (w8 : Value) (hw8 : mNotL w8 = true) (w9 : Value) (hw9 : mNotL w9 = true) {o : ((Int32 × Int32 × Int32 × Int32 × mM) ⊕ ((Int32 × mM) ⊕ (Int32 × mM)))} {r : Option Value × mM} (hr : s7L8_53 p0 p1 p2 μ v4 v5 v6 v7 t0 = some o) (hC : Sum.elim (fun s' : Int32 × Int32 × Int32 × Int32 × mM => ∀ (w3 : Value) (hw3 : mNotL w3 = true) (w8 : Value) (hw8 : mNotL w8 = true) (w9 : Value) (hw9 : mNotL w9 = true), mGo mG (7, List.drop 8 mC7, [.ref p0, .ref p1, .int p2, w3, .int s'.1, .int s'.2.1, .int s'.2.2.1, .int s'.2.2.2.1, w8, w9], [], s'.2.2.2.2) r) (Sum.elim (fun x : Int32 × mM => ∀ (w0 : Value) (hw0 : mNotL w0 = true) (w1 : Value) (hw1 : mNotL w1 = true) (w2 : Value) (hw2 : mNotL w2 = true) (w3 : Value) (hw3 : mNotL w3 = true) (w5 : Value) (hw5 : mNotL w5 = true) (w6 : Value) (hw6 : mNotL w6 = true) (w7 : Value) (hw7 : mNotL w7 = true) (w8 : Value) (hw8 : mNotL w8 = true) (w9 : Value) (hw9 : mNotL w9 = true), mGo mG (7, List.drop 76 mC7, [w0, w1, w2, w3, .int x.1, w5, w6, w7, w8, w9], [], x.2) r) (fun y : (Int32 × mM) => r = (some (.int y.1), y.2))) o) : mGo mG (7, List.drop 53 mC7, [.ref p0, .ref p1, .int p2, w3, .int v4, .int v5, .int v6, .int v7, w8, w9], [.int t0], μ) r := by
  unfold s7L8_53 at hr
  refine gSt1 (L := [.ref p0, .ref p1, .int p2, w3, .int v4, .int v5, .int v6, .int v7, w8, w9]) (q := 9) (w := .int t0) (is := List.drop 54 mC7) (st := []) (μ := μ) rfl (Nat.le_of_ble_eq_true rfl) hw8 ?_
  refine mGo.steps 2 (c' := (7, List.drop 56 mC7, [.ref p0, .ref p1, .int p2, w3, .int v4, .int v5, .int v6, .int v7, w8, .int t0], [.ref p0, .ref p0], μ)) rfl ?_
  obtain ⟨h7, hr⟩ := mIf hr
  refine gGet (is := List.drop 57 mC7) (v := .int (mI μ p0 1)) h7 rfl ?_
  refine mGo.steps 2 (c' := (7, List.drop 59 mC7, [.ref p0, .ref p1, .int p2, w3, .int v4, .int v5, .int v6, .int v7, w8, .int t0], [.int ((mI μ p0 1) - t0), .ref p0], μ)) rfl ?_
  replace hr := mBs hr
  refine gPut (is := List.drop 60 mC7) (μ' := mUI μ p0 1 ((mI μ p0 1) - t0)) h7 rfl ?_
  let μ8 : mM := mUI μ p0 1 ((mI μ p0 1) - t0)
  refine mGo.steps 1 (c' := (7, List.drop 61 mC7, [.ref p0, .ref p1, .int p2, w3, .int v4, .int v5, .int v6, .int v7, w8, .int t0], [.int t0], μ8)) rfl ?_
  rcases mIte hr with ⟨h10, hr⟩ | ⟨h10, hr⟩
  · refine gBrT (p := t0 ≤ 0) (y := 7) (is := List.drop 62 mC7) (L := [.ref p0, .ref p1, .int p2, w3, .int v4, .int v5, .int v6, .int v7, w8, .int t0]) (st := []) (μ := μ8) (t := 129) rfl h10 ?_
    refine mGo.steps 3 (c' := (7, List.drop 67 mC7, [.ref p0, .ref p1, .int p2, w3, .int v4, .int v5, .int v6, .int v7, w8, .int t0], [.int (v6 + 1)], μ8)) rfl ?_
    exact t7L8_67 p0 p1 p2 μ8 v4 v5 v7 t0 (v6 + 1) w3 hw3 (.int v6) rfl w8 hw8 hr hC
  · refine gBrF (p := t0 ≤ 0) (y := 7) (is := List.drop 62 mC7) (L := [.ref p0, .ref p1, .int p2, w3, .int v4, .int v5, .int v6, .int v7, w8, .int t0]) (st := []) (μ := μ8) (t := 129) rfl h10 ?_
    refine mGo.steps 2 (c' := (7, List.drop 67 mC7, [.ref p0, .ref p1, .int p2, w3, .int v4, .int v5, .int v6, .int v7, w8, .int t0], [.int 0], μ8)) rfl ?_
    exact t7L8_67 p0 p1 p2 μ8 v4 v5 v7 t0 0 w3 hw3 (.int v6) rfl w8 hw8 hr hC
def s7L8_29 (p0 : Nat) (p1 : Nat) (p2 : Int32) (μ : mM) (v4 : Int32) (v6 : Int32) (v7 : Int32) (t0 : Int32) : Option ((Int32 × Int32 × Int32 × Int32 × mM) ⊕ ((Int32 × mM) ⊕ (Int32 × mM))) :=
  if (mS μ p1).1 = 1 then if (mS μ (mP μ p1 1)).1 = 20 + 6 ∧ mInb t0 (mS μ (mP μ p1 1)).2 then if (mS μ (mP μ (mP μ p1 1) (Int32.toNatClampNeg t0))).1 = 6 then (s81 μ (mP μ (mP μ p1 1) (Int32.toNatClampNeg t0))).bind fun q5 => if q5 = 0 then (s7L8_53 p0 p1 p2 μ v4 t0 v6 v7 0) else ((s78 μ (mP μ (mP μ p1 1) (Int32.toNatClampNeg t0)) p2).bind fun q11 => if (mS μ p0).1 = 0 then if (mS μ (mP μ p0 0)).1 = 10 ∧ mInb t0 (mS μ (mP μ p0 0)).2 then (s82 μ (mP μ (mP μ p1 1) (Int32.toNatClampNeg t0))).bind fun q15 => if (mS μ q11).1 = 7 then (s93 μ q11 (mI μ (mP μ p0 0) (Int32.toNatClampNeg t0)) (mMin (mI μ p0 1) q15)).bind fun q18 => s7L8_53 p0 p1 p2 q18.2 v4 t0 v6 v7 q18.1 else none else none else none) else none else none else none
set_option maxRecDepth 20000 in
theorem t7L8_29 (p0 : Nat) (p1 : Nat) (p2 : Int32) (μ : mM) (v4 : Int32) (v6 : Int32) (v7 : Int32) (t0 : Int32) (w3 : Value) (hw3 : mNotL w3 = true) (w5 : Value) (hw5 : mNotL w5 = true) (w8 : Value) (hw8 : mNotL w8 = true) (w9 : Value) (hw9 : mNotL w9 = true) {o : ((Int32 × Int32 × Int32 × Int32 × mM) ⊕ ((Int32 × mM) ⊕ (Int32 × mM)))} {r : Option Value × mM} (hr : s7L8_29 p0 p1 p2 μ v4 v6 v7 t0 = some o) (hC : Sum.elim (fun s' : Int32 × Int32 × Int32 × Int32 × mM => ∀ (w3 : Value) (hw3 : mNotL w3 = true) (w8 : Value) (hw8 : mNotL w8 = true) (w9 : Value) (hw9 : mNotL w9 = true), mGo mG (7, List.drop 8 mC7, [.ref p0, .ref p1, .int p2, w3, .int s'.1, .int s'.2.1, .int s'.2.2.1, .int s'.2.2.2.1, w8, w9], [], s'.2.2.2.2) r) (Sum.elim (fun x : Int32 × mM => ∀ (w0 : Value) (hw0 : mNotL w0 = true) (w1 : Value) (hw1 : mNotL w1 = true) (w2 : Value) (hw2 : mNotL w2 = true) (w3 : Value) (hw3 : mNotL w3 = true) (w5 : Value) (hw5 : mNotL w5 = true) (w6 : Value) (hw6 : mNotL w6 = true) (w7 : Value) (hw7 : mNotL w7 = true) (w8 : Value) (hw8 : mNotL w8 = true) (w9 : Value) (hw9 : mNotL w9 = true), mGo mG (7, List.drop 76 mC7, [w0, w1, w2, w3, .int x.1, w5, w6, w7, w8, w9], [], x.2) r) (fun y : (Int32 × mM) => r = (some (.int y.1), y.2))) o) : mGo mG (7, List.drop 29 mC7, [.ref p0, .ref p1, .int p2, w3, .int v4, w5, .int v6, .int v7, w8, w9], [.int t0], μ) r := by
  unfold s7L8_29 at hr
  refine mGo.steps 2 (c' := (7, List.drop 31 mC7, [.ref p0, .ref p1, .int p2, w3, .int v4, .int t0, .int v6, .int v7, w8, w9], [.ref p1], μ)) rfl ?_
  obtain ⟨h2, hr⟩ := mIf hr
  refine gGet (is := List.drop 32 mC7) (v := .ref (mP μ p1 1)) h2 rfl ?_
  refine mGo.steps 1 (c' := (7, List.drop 33 mC7, [.ref p0, .ref p1, .int p2, w3, .int v4, .int t0, .int v6, .int v7, w8, w9], [.int t0, .ref (mP μ p1 1)], μ)) rfl ?_
  obtain ⟨h3, hr⟩ := mIf hr
  refine gAald (is := List.drop 34 mC7) h3 ?_
  refine mGo.steps 2 (c' := (7, List.drop 36 mC7, [.ref p0, .ref p1, .int p2, w3, .int v4, .int t0, .int v6, .int v7, .ref (mP μ (mP μ p1 1) (Int32.toNatClampNeg t0)), w9], [.ref (mP μ (mP μ p1 1) (Int32.toNatClampNeg t0))], μ)) rfl ?_
  obtain ⟨h4, hr⟩ := mIf hr
  obtain ⟨q5, h6, hr⟩ := mBi hr
  refine gCall (z := 81) (n := 0) (f := 0) (kind := 1) (a := (mP μ (mP μ p1 1) (Int32.toNatClampNeg t0))) (As := []) (y := 7) (is := List.drop 37 mC7) (L := [.ref p0, .ref p1, .int p2, w3, .int v4, .int t0, .int v6, .int v7, .ref (mP μ (mP μ p1 1) (Int32.toNatClampNeg t0)), w9]) (rest := []) (μ := μ) rfl (by decide) (by decide) ⟨rfl, rfl⟩ rfl h4 (Nat.le_of_ble_eq_true rfl) (Nat.le_of_ble_eq_true rfl) (t81 h6) ?_
  rcases mIte hr with ⟨h20, hr⟩ | ⟨h20, hr⟩
  · refine gBrT (p := q5 = 0) (y := 7) (is := List.drop 38 mC7) (L := [.ref p0, .ref p1, .int p2, w3, .int v4, .int t0, .int v6, .int v7, .ref (mP μ (mP μ p1 1) (Int32.toNatClampNeg t0)), w9]) (st := []) (μ := μ) (t := 106) rfl h20 ?_
    refine mGo.steps 1 (c' := (7, List.drop 53 mC7, [.ref p0, .ref p1, .int p2, w3, .int v4, .int t0, .int v6, .int v7, .ref (mP μ (mP μ p1 1) (Int32.toNatClampNeg t0)), w9], [.int 0], μ)) rfl ?_
    exact t7L8_53 p0 p1 p2 μ v4 t0 v6 v7 0 w3 hw3 (.ref (mP μ (mP μ p1 1) (Int32.toNatClampNeg t0))) rfl w9 hw9 hr hC
  · refine gBrF (p := q5 = 0) (y := 7) (is := List.drop 38 mC7) (L := [.ref p0, .ref p1, .int p2, w3, .int v4, .int t0, .int v6, .int v7, .ref (mP μ (mP μ p1 1) (Int32.toNatClampNeg t0)), w9]) (st := []) (μ := μ) (t := 106) rfl h20 ?_
    refine mGo.steps 2 (c' := (7, List.drop 40 mC7, [.ref p0, .ref p1, .int p2, w3, .int v4, .int t0, .int v6, .int v7, .ref (mP μ (mP μ p1 1) (Int32.toNatClampNeg t0)), w9], [.int p2, .ref (mP μ (mP μ p1 1) (Int32.toNatClampNeg t0))], μ)) rfl ?_
    obtain ⟨q11, h12, hr⟩ := mBi hr
    refine gCall (z := 78) (n := 1) (f := 0) (kind := 1) (a := (mP μ (mP μ p1 1) (Int32.toNatClampNeg t0))) (As := [.int p2]) (y := 7) (is := List.drop 41 mC7) (L := [.ref p0, .ref p1, .int p2, w3, .int v4, .int t0, .int v6, .int v7, .ref (mP μ (mP μ p1 1) (Int32.toNatClampNeg t0)), w9]) (rest := []) (μ := μ) rfl (by decide) (by decide) ⟨rfl, rfl⟩ rfl h4 (Nat.le_of_ble_eq_true rfl) (Nat.le_of_ble_eq_true rfl) (t78 h12) ?_
    refine mGo.steps 1 (c' := (7, List.drop 42 mC7, [.ref p0, .ref p1, .int p2, w3, .int v4, .int t0, .int v6, .int v7, .ref (mP μ (mP μ p1 1) (Int32.toNatClampNeg t0)), w9], [.ref p0, .ref q11], μ)) rfl ?_
    obtain ⟨h13, hr⟩ := mIf hr
    refine gGet (is := List.drop 43 mC7) (v := .ref (mP μ p0 0)) h13 rfl ?_
    refine mGo.steps 1 (c' := (7, List.drop 44 mC7, [.ref p0, .ref p1, .int p2, w3, .int v4, .int t0, .int v6, .int v7, .ref (mP μ (mP μ p1 1) (Int32.toNatClampNeg t0)), w9], [.int t0, .ref (mP μ p0 0), .ref q11], μ)) rfl ?_
    obtain ⟨h14, hr⟩ := mIf hr
    refine gIald (is := List.drop 45 mC7) h14 ?_
    refine mGo.steps 1 (c' := (7, List.drop 46 mC7, [.ref p0, .ref p1, .int p2, w3, .int v4, .int t0, .int v6, .int v7, .ref (mP μ (mP μ p1 1) (Int32.toNatClampNeg t0)), w9], [.ref p0, .int (mI μ (mP μ p0 0) (Int32.toNatClampNeg t0)), .ref q11], μ)) rfl ?_
    refine gGet (is := List.drop 47 mC7) (v := .int (mI μ p0 1)) h13 rfl ?_
    refine mGo.steps 1 (c' := (7, List.drop 48 mC7, [.ref p0, .ref p1, .int p2, w3, .int v4, .int t0, .int v6, .int v7, .ref (mP μ (mP μ p1 1) (Int32.toNatClampNeg t0)), w9], [.ref (mP μ (mP μ p1 1) (Int32.toNatClampNeg t0)), .int (mI μ p0 1), .int (mI μ (mP μ p0 0) (Int32.toNatClampNeg t0)), .ref q11], μ)) rfl ?_
    obtain ⟨q15, h16, hr⟩ := mBi hr
    refine gCall (z := 82) (n := 0) (f := 0) (kind := 1) (a := (mP μ (mP μ p1 1) (Int32.toNatClampNeg t0))) (As := []) (y := 7) (is := List.drop 49 mC7) (L := [.ref p0, .ref p1, .int p2, w3, .int v4, .int t0, .int v6, .int v7, .ref (mP μ (mP μ p1 1) (Int32.toNatClampNeg t0)), w9]) (rest := [.int (mI μ p0 1), .int (mI μ (mP μ p0 0) (Int32.toNatClampNeg t0)), .ref q11]) (μ := μ) rfl (by decide) (by decide) ⟨rfl, rfl⟩ rfl h4 (Nat.le_of_ble_eq_true rfl) (Nat.le_of_ble_eq_true rfl) (t82 h16) ?_
    refine mGo.steps 1 (c' := (7, List.drop 50 mC7, [.ref p0, .ref p1, .int p2, w3, .int v4, .int t0, .int v6, .int v7, .ref (mP μ (mP μ p1 1) (Int32.toNatClampNeg t0)), w9], [.int (mMin (mI μ p0 1) q15), .int (mI μ (mP μ p0 0) (Int32.toNatClampNeg t0)), .ref q11], μ)) rfl ?_
    obtain ⟨h17, hr⟩ := mIf hr
    obtain ⟨q18, h19, hr⟩ := mBi hr
    refine gCall (z := 93) (n := 2) (f := 0) (kind := 1) (a := q11) (As := [.int (mI μ (mP μ p0 0) (Int32.toNatClampNeg t0)), .int (mMin (mI μ p0 1) q15)]) (y := 7) (is := List.drop 51 mC7) (L := [.ref p0, .ref p1, .int p2, w3, .int v4, .int t0, .int v6, .int v7, .ref (mP μ (mP μ p1 1) (Int32.toNatClampNeg t0)), w9]) (rest := []) (μ := μ) rfl (by decide) (by decide) ⟨rfl, rfl⟩ rfl h17 (Nat.le_of_ble_eq_true rfl) (Nat.le_of_ble_eq_true rfl) (t93 h19) ?_
    refine mGo.steps 1 (c' := (7, List.drop 53 mC7, [.ref p0, .ref p1, .int p2, w3, .int v4, .int t0, .int v6, .int v7, .ref (mP μ (mP μ p1 1) (Int32.toNatClampNeg t0)), w9], [.int q18.1], q18.2)) rfl ?_
    exact t7L8_53 p0 p1 p2 q18.2 v4 t0 v6 v7 q18.1 w3 hw3 (.ref (mP μ (mP μ p1 1) (Int32.toNatClampNeg t0))) rfl w9 hw9 hr hC
def s7L8_24 (p0 : Nat) (p1 : Nat) (p2 : Int32) (μ : mM) (v4 : Int32) (v6 : Int32) (v7 : Int32) : Option ((Int32 × Int32 × Int32 × Int32 × mM) ⊕ ((Int32 × mM) ⊕ (Int32 × mM))) :=
  s7L8_29 p0 p1 p2 μ v4 v6 v7 0
set_option maxRecDepth 20000 in
theorem t7L8_24 (p0 : Nat) (p1 : Nat) (p2 : Int32) (μ : mM) (v4 : Int32) (v6 : Int32) (v7 : Int32) (w3 : Value) (hw3 : mNotL w3 = true) (w5 : Value) (hw5 : mNotL w5 = true) (w8 : Value) (hw8 : mNotL w8 = true) (w9 : Value) (hw9 : mNotL w9 = true) {o : ((Int32 × Int32 × Int32 × Int32 × mM) ⊕ ((Int32 × mM) ⊕ (Int32 × mM)))} {r : Option Value × mM} (hr : s7L8_24 p0 p1 p2 μ v4 v6 v7 = some o) (hC : Sum.elim (fun s' : Int32 × Int32 × Int32 × Int32 × mM => ∀ (w3 : Value) (hw3 : mNotL w3 = true) (w8 : Value) (hw8 : mNotL w8 = true) (w9 : Value) (hw9 : mNotL w9 = true), mGo mG (7, List.drop 8 mC7, [.ref p0, .ref p1, .int p2, w3, .int s'.1, .int s'.2.1, .int s'.2.2.1, .int s'.2.2.2.1, w8, w9], [], s'.2.2.2.2) r) (Sum.elim (fun x : Int32 × mM => ∀ (w0 : Value) (hw0 : mNotL w0 = true) (w1 : Value) (hw1 : mNotL w1 = true) (w2 : Value) (hw2 : mNotL w2 = true) (w3 : Value) (hw3 : mNotL w3 = true) (w5 : Value) (hw5 : mNotL w5 = true) (w6 : Value) (hw6 : mNotL w6 = true) (w7 : Value) (hw7 : mNotL w7 = true) (w8 : Value) (hw8 : mNotL w8 = true) (w9 : Value) (hw9 : mNotL w9 = true), mGo mG (7, List.drop 76 mC7, [w0, w1, w2, w3, .int x.1, w5, w6, w7, w8, w9], [], x.2) r) (fun y : (Int32 × mM) => r = (some (.int y.1), y.2))) o) : mGo mG (7, List.drop 24 mC7, [.ref p0, .ref p1, .int p2, w3, .int v4, w5, .int v6, .int v7, w8, w9], [], μ) r := by
  unfold s7L8_24 at hr
  refine mGo.steps 2 (c' := (7, List.drop 29 mC7, [.ref p0, .ref p1, .int p2, w3, .int v4, w5, .int v6, .int v7, w8, w9], [.int 0], μ)) rfl ?_
  exact t7L8_29 p0 p1 p2 μ v4 v6 v7 0 w3 hw3 w5 hw5 w8 hw8 w9 hw9 hr hC
def s7L8 (p0 : Nat) (p1 : Nat) (p2 : Int32) (s : Int32 × Int32 × Int32 × Int32 × mM) : Option ((Int32 × Int32 × Int32 × Int32 × mM) ⊕ ((Int32 × mM) ⊕ (Int32 × mM))) :=
  if 130 ≤ s.2.2.2.1 then (some (.inr (.inl (s.1, s.2.2.2.2)))) else (if (mS s.2.2.2.2 p0).1 = 0 then if (mI s.2.2.2.2 p0 1) ≤ 0 then (some (.inr (.inl (s.1, s.2.2.2.2)))) else (if 10 ≤ s.2.2.1 then (some (.inr (.inl (s.1, s.2.2.2.2)))) else (if s.2.1 < 0 then (s7L8_24 p0 p1 p2 s.2.2.2.2 s.1 s.2.2.1 s.2.2.2.1) else (if (s.2.1 + 1) < 10 then (s7L8_29 p0 p1 p2 s.2.2.2.2 s.1 s.2.2.1 s.2.2.2.1 (s.2.1 + 1)) else (s7L8_24 p0 p1 p2 s.2.2.2.2 s.1 s.2.2.1 s.2.2.2.1)))) else none)
set_option maxRecDepth 20000 in
theorem t7L8 (p0 : Nat) (p1 : Nat) (p2 : Int32) {r : Option Value × mM} (s : Int32 × Int32 × Int32 × Int32 × mM) (o : ((Int32 × Int32 × Int32 × Int32 × mM) ⊕ ((Int32 × mM) ⊕ (Int32 × mM)))) (hr : s7L8 p0 p1 p2 s = some o) (hC : Sum.elim (fun s' : Int32 × Int32 × Int32 × Int32 × mM => ∀ (w3 : Value) (hw3 : mNotL w3 = true) (w8 : Value) (hw8 : mNotL w8 = true) (w9 : Value) (hw9 : mNotL w9 = true), mGo mG (7, List.drop 8 mC7, [.ref p0, .ref p1, .int p2, w3, .int s'.1, .int s'.2.1, .int s'.2.2.1, .int s'.2.2.2.1, w8, w9], [], s'.2.2.2.2) r) (Sum.elim (fun x : Int32 × mM => ∀ (w0 : Value) (hw0 : mNotL w0 = true) (w1 : Value) (hw1 : mNotL w1 = true) (w2 : Value) (hw2 : mNotL w2 = true) (w3 : Value) (hw3 : mNotL w3 = true) (w5 : Value) (hw5 : mNotL w5 = true) (w6 : Value) (hw6 : mNotL w6 = true) (w7 : Value) (hw7 : mNotL w7 = true) (w8 : Value) (hw8 : mNotL w8 = true) (w9 : Value) (hw9 : mNotL w9 = true), mGo mG (7, List.drop 76 mC7, [w0, w1, w2, w3, .int x.1, w5, w6, w7, w8, w9], [], x.2) r) (fun y : (Int32 × mM) => r = (some (.int y.1), y.2))) o) : ∀ (w3 : Value) (hw3 : mNotL w3 = true) (w8 : Value) (hw8 : mNotL w8 = true) (w9 : Value) (hw9 : mNotL w9 = true), mGo mG (7, List.drop 8 mC7, [.ref p0, .ref p1, .int p2, w3, .int s.1, .int s.2.1, .int s.2.2.1, .int s.2.2.2.1, w8, w9], [], s.2.2.2.2) r := by
  intro w3 hw3 w8 hw8 w9 hw9
  unfold s7L8 at hr
  refine mGo.steps 2 (c' := (7, List.drop 10 mC7, [.ref p0, .ref p1, .int p2, w3, .int s.1, .int s.2.1, .int s.2.2.1, .int s.2.2.2.1, w8, w9], [.int 130, .int s.2.2.2.1], s.2.2.2.2)) rfl ?_
  rcases mIte hr with ⟨h25, hr⟩ | ⟨h25, hr⟩
  · refine gBrT (p := 130 ≤ s.2.2.2.1) (y := 7) (is := List.drop 11 mC7) (L := [.ref p0, .ref p1, .int p2, w3, .int s.1, .int s.2.1, .int s.2.2.1, .int s.2.2.2.1, w8, w9]) (st := []) (μ := s.2.2.2.2) (t := 155) rfl h25 ?_
    obtain rfl := Option.some.inj hr
    exact hC (.ref p0) rfl (.ref p1) rfl (.int p2) rfl w3 hw3 (.int s.2.1) rfl (.int s.2.2.1) rfl (.int s.2.2.2.1) rfl w8 hw8 w9 hw9
  · refine gBrF (p := 130 ≤ s.2.2.2.1) (y := 7) (is := List.drop 11 mC7) (L := [.ref p0, .ref p1, .int p2, w3, .int s.1, .int s.2.1, .int s.2.2.1, .int s.2.2.2.1, w8, w9]) (st := []) (μ := s.2.2.2.2) (t := 155) rfl h25 ?_
    refine mGo.steps 1 (c' := (7, List.drop 12 mC7, [.ref p0, .ref p1, .int p2, w3, .int s.1, .int s.2.1, .int s.2.2.1, .int s.2.2.2.1, w8, w9], [.ref p0], s.2.2.2.2)) rfl ?_
    obtain ⟨h1, hr⟩ := mIf hr
    refine gGet (is := List.drop 13 mC7) (v := .int (mI s.2.2.2.2 p0 1)) h1 rfl ?_
    rcases mIte hr with ⟨h24, hr⟩ | ⟨h24, hr⟩
    · refine gBrT (p := (mI s.2.2.2.2 p0 1) ≤ 0) (y := 7) (is := List.drop 14 mC7) (L := [.ref p0, .ref p1, .int p2, w3, .int s.1, .int s.2.1, .int s.2.2.1, .int s.2.2.2.1, w8, w9]) (st := []) (μ := s.2.2.2.2) (t := 155) rfl h24 ?_
      obtain rfl := Option.some.inj hr
      exact hC (.ref p0) rfl (.ref p1) rfl (.int p2) rfl w3 hw3 (.int s.2.1) rfl (.int s.2.2.1) rfl (.int s.2.2.2.1) rfl w8 hw8 w9 hw9
    · refine gBrF (p := (mI s.2.2.2.2 p0 1) ≤ 0) (y := 7) (is := List.drop 14 mC7) (L := [.ref p0, .ref p1, .int p2, w3, .int s.1, .int s.2.1, .int s.2.2.1, .int s.2.2.2.1, w8, w9]) (st := []) (μ := s.2.2.2.2) (t := 155) rfl h24 ?_
      refine mGo.steps 2 (c' := (7, List.drop 16 mC7, [.ref p0, .ref p1, .int p2, w3, .int s.1, .int s.2.1, .int s.2.2.1, .int s.2.2.2.1, w8, w9], [.int 10, .int s.2.2.1], s.2.2.2.2)) rfl ?_
      rcases mIte hr with ⟨h23, hr⟩ | ⟨h23, hr⟩
      · refine gBrT (p := 10 ≤ s.2.2.1) (y := 7) (is := List.drop 17 mC7) (L := [.ref p0, .ref p1, .int p2, w3, .int s.1, .int s.2.1, .int s.2.2.1, .int s.2.2.2.1, w8, w9]) (st := []) (μ := s.2.2.2.2) (t := 155) rfl h23 ?_
        obtain rfl := Option.some.inj hr
        exact hC (.ref p0) rfl (.ref p1) rfl (.int p2) rfl w3 hw3 (.int s.2.1) rfl (.int s.2.2.1) rfl (.int s.2.2.2.1) rfl w8 hw8 w9 hw9
      · refine gBrF (p := 10 ≤ s.2.2.1) (y := 7) (is := List.drop 17 mC7) (L := [.ref p0, .ref p1, .int p2, w3, .int s.1, .int s.2.1, .int s.2.2.1, .int s.2.2.2.1, w8, w9]) (st := []) (μ := s.2.2.2.2) (t := 155) rfl h23 ?_
        refine mGo.steps 1 (c' := (7, List.drop 18 mC7, [.ref p0, .ref p1, .int p2, w3, .int s.1, .int s.2.1, .int s.2.2.1, .int s.2.2.2.1, w8, w9], [.int s.2.1], s.2.2.2.2)) rfl ?_
        rcases mIte hr with ⟨h22, hr⟩ | ⟨h22, hr⟩
        · refine gBrT (p := s.2.1 < 0) (y := 7) (is := List.drop 19 mC7) (L := [.ref p0, .ref p1, .int p2, w3, .int s.1, .int s.2.1, .int s.2.2.1, .int s.2.2.2.1, w8, w9]) (st := []) (μ := s.2.2.2.2) (t := 48) rfl h22 ?_
          exact t7L8_24 p0 p1 p2 s.2.2.2.2 s.1 s.2.2.1 s.2.2.2.1 w3 hw3 (.int s.2.1) rfl w8 hw8 w9 hw9 hr hC
        · refine gBrF (p := s.2.1 < 0) (y := 7) (is := List.drop 19 mC7) (L := [.ref p0, .ref p1, .int p2, w3, .int s.1, .int s.2.1, .int s.2.2.1, .int s.2.2.2.1, w8, w9]) (st := []) (μ := s.2.2.2.2) (t := 48) rfl h22 ?_
          refine mGo.steps 4 (c' := (7, List.drop 23 mC7, [.ref p0, .ref p1, .int p2, w3, .int s.1, .int s.2.1, .int s.2.2.1, .int s.2.2.2.1, w8, w9], [.int 10, .int (s.2.1 + 1)], s.2.2.2.2)) rfl ?_
          rcases mIte hr with ⟨h21, hr⟩ | ⟨h21, hr⟩
          · refine gBrT (p := (s.2.1 + 1) < 10) (y := 7) (is := List.drop 24 mC7) (L := [.ref p0, .ref p1, .int p2, w3, .int s.1, .int s.2.1, .int s.2.2.1, .int s.2.2.2.1, w8, w9]) (st := []) (μ := s.2.2.2.2) (t := 52) rfl h21 ?_
            refine mGo.steps 3 (c' := (7, List.drop 29 mC7, [.ref p0, .ref p1, .int p2, w3, .int s.1, .int s.2.1, .int s.2.2.1, .int s.2.2.2.1, w8, w9], [.int (s.2.1 + 1)], s.2.2.2.2)) rfl ?_
            exact t7L8_29 p0 p1 p2 s.2.2.2.2 s.1 s.2.2.1 s.2.2.2.1 (s.2.1 + 1) w3 hw3 (.int s.2.1) rfl w8 hw8 w9 hw9 hr hC
          · refine gBrF (p := (s.2.1 + 1) < 10) (y := 7) (is := List.drop 24 mC7) (L := [.ref p0, .ref p1, .int p2, w3, .int s.1, .int s.2.1, .int s.2.2.1, .int s.2.2.2.1, w8, w9]) (st := []) (μ := s.2.2.2.2) (t := 52) rfl h21 ?_
            exact t7L8_24 p0 p1 p2 s.2.2.2.2 s.1 s.2.2.1 s.2.2.2.1 w3 hw3 (.int s.2.1) rfl w8 hw8 w9 hw9 hr hC
theorem t7L8l (p0 : Nat) (p1 : Nat) (p2 : Int32) {r : Option Value × mM} (n : Nat) (s : Int32 × Int32 × Int32 × Int32 × mM) (o : (Int32 × mM) ⊕ (Int32 × mM)) (hr : mLoop (s7L8 p0 p1 p2) n s = some o) (hC : Sum.elim (fun x : Int32 × mM => ∀ (w0 : Value) (hw0 : mNotL w0 = true) (w1 : Value) (hw1 : mNotL w1 = true) (w2 : Value) (hw2 : mNotL w2 = true) (w3 : Value) (hw3 : mNotL w3 = true) (w5 : Value) (hw5 : mNotL w5 = true) (w6 : Value) (hw6 : mNotL w6 = true) (w7 : Value) (hw7 : mNotL w7 = true) (w8 : Value) (hw8 : mNotL w8 = true) (w9 : Value) (hw9 : mNotL w9 = true), mGo mG (7, List.drop 76 mC7, [w0, w1, w2, w3, .int x.1, w5, w6, w7, w8, w9], [], x.2) r) (fun y : (Int32 × mM) => r = (some (.int y.1), y.2)) o) : ∀ (w3 : Value) (hw3 : mNotL w3 = true) (w8 : Value) (hw8 : mNotL w8 = true) (w9 : Value) (hw9 : mNotL w9 = true), mGo mG (7, List.drop 8 mC7, [.ref p0, .ref p1, .int p2, w3, .int s.1, .int s.2.1, .int s.2.2.1, .int s.2.2.2.1, w8, w9], [], s.2.2.2.2) r :=
  mLoop_go (Hd := (fun s' : Int32 × Int32 × Int32 × Int32 × mM => ∀ (w3 : Value) (hw3 : mNotL w3 = true) (w8 : Value) (hw8 : mNotL w8 = true) (w9 : Value) (hw9 : mNotL w9 = true), mGo mG (7, List.drop 8 mC7, [.ref p0, .ref p1, .int p2, w3, .int s'.1, .int s'.2.1, .int s'.2.2.1, .int s'.2.2.2.1, w8, w9], [], s'.2.2.2.2) r)) (fun s o hb hC => t7L8 p0 p1 p2 s o hb hC) n s o hr hC
def s7_76 (a0 : Nat) (a1 : Nat) (a2 : Int32) (a3 : Int32) (μ : mM) (v4 : Int32) : Option (Int32 × mM) :=
  some (v4, μ)
set_option maxRecDepth 20000 in
theorem t7_76 (a0 : Nat) (a1 : Nat) (a2 : Int32) (a3 : Int32) (μ : mM) (v4 : Int32) (w0 : Value) (hw0 : mNotL w0 = true) (w1 : Value) (hw1 : mNotL w1 = true) (w2 : Value) (hw2 : mNotL w2 = true) (w3 : Value) (hw3 : mNotL w3 = true) (w5 : Value) (hw5 : mNotL w5 = true) (w6 : Value) (hw6 : mNotL w6 = true) (w7 : Value) (hw7 : mNotL w7 = true) (w8 : Value) (hw8 : mNotL w8 = true) (w9 : Value) (hw9 : mNotL w9 = true) {o : (Int32 × mM)} {r : Option Value × mM} (hr : s7_76 a0 a1 a2 a3 μ v4 = some o) (hC : r = (some (.int o.1), o.2)) : mGo mG (7, List.drop 76 mC7, [w0, w1, w2, w3, .int v4, w5, w6, w7, w8, w9], [], μ) r := by
  unfold s7_76 at hr
  refine mGo.steps 1 (c' := (7, List.drop 77 mC7, [w0, w1, w2, w3, .int v4, w5, w6, w7, w8, w9], [.int v4], μ)) rfl ?_
  obtain rfl := Option.some.inj hr
  rw [show r = _ from hC]
  exact gIret rfl
def s7 (μ : mM) (a0 : Nat) (a1 : Nat) (a2 : Int32) (a3 : Int32) : Option (Int32 × mM) :=
  (mLoop (s7L8 a0 a1 a2) 1000 (a3, a3, 0, 0, μ)).bind fun o26 => Sum.elim (fun x27 => s7_76 a0 a1 a2 a3 x27.2 x27.1) (fun y28 => some y28) o26
set_option maxRecDepth 20000 in
theorem t7 {μ : mM} {a0 : Nat} {a1 : Nat} {a2 : Int32} {a3 : Int32} {o : (Int32 × mM)} (hr : s7 μ a0 a1 a2 a3 = some o) : mEv mG 7 [.ref a0, .ref a1, .int a2, .int a3] μ (some (.int o.1)) (o.2) := by
  obtain ⟨r, hC⟩ : ∃ r : Option Value × mM, r = (some (.int o.1), o.2) := ⟨_, rfl⟩
  show mGo mG (7, List.drop 0 mC7, [.ref a0, .ref a1, .int a2, .int a3, .retAddr 0, .retAddr 0, .retAddr 0, .retAddr 0, .retAddr 0, .retAddr 0], [], μ) (some (.int o.1), o.2)
  rw [← hC]
  unfold s7 at hr
  refine mGo.steps 8 (c' := (7, List.drop 8 mC7, [.ref a0, .ref a1, .int a2, .int a3, .int a3, .int a3, .int 0, .int 0, .retAddr 0, .retAddr 0], [], μ)) rfl ?_
  obtain ⟨o26, h29, hr⟩ := mBi hr
  refine t7L8l a0 a1 a2 1000 (a3, a3, 0, 0, μ) o26 h29 ?_ (.int a3) rfl (.retAddr 0) rfl (.retAddr 0) rfl
  cases o26 with
  | inl x27 =>
    show ∀ (w0 : Value) (hw0 : mNotL w0 = true) (w1 : Value) (hw1 : mNotL w1 = true) (w2 : Value) (hw2 : mNotL w2 = true) (w3 : Value) (hw3 : mNotL w3 = true) (w5 : Value) (hw5 : mNotL w5 = true) (w6 : Value) (hw6 : mNotL w6 = true) (w7 : Value) (hw7 : mNotL w7 = true) (w8 : Value) (hw8 : mNotL w8 = true) (w9 : Value) (hw9 : mNotL w9 = true), mGo mG (7, List.drop 76 mC7, [w0, w1, w2, w3, .int x27.1, w5, w6, w7, w8, w9], [], x27.2) r
    intro w0 hw0 w1 hw1 w2 hw2 w3 hw3 w5 hw5 w6 hw6 w7 hw7 w8 hw8 w9 hw9
    replace hr : (_) = some _ := hr
    exact t7_76 a0 a1 a2 a3 x27.2 x27.1 w0 hw0 w1 hw1 w2 hw2 w3 hw3 w5 hw5 w6 hw6 w7 hw7 w8 hw8 w9 hw9 hr hC
  | inr y28 =>
    obtain rfl := Option.some.inj hr
    exact hC

/-! 136: TunnelFabric.rateOf(I)I -/
def s136 (μ : mM) (a0 : Int32) : Option Int32 :=
  if a0 = 1 then (some 1) else (if a0 = 2 then (some 2) else (some 4))
set_option maxRecDepth 20000 in
theorem t136 {μ : mM} {a0 : Int32} {o : Int32} (hr : s136 μ a0 = some o) : mEv mG 136 [.int a0] μ (some (.int o)) (μ) := by
  obtain ⟨r, hC⟩ : ∃ r : Option Value × mM, r = (some (.int o), μ) := ⟨_, rfl⟩
  show mGo mG (136, List.drop 0 mC136, [.int a0], [], μ) (some (.int o), μ)
  rw [← hC]
  unfold s136 at hr
  refine mGo.steps 1 (c' := (136, List.drop 1 mC136, [.int a0], [.int a0], μ)) rfl ?_
  refine mGo.steps 1 (c' := (136, mSeek (mLs a0 [(1, 27), (2, 29)] [28, 30] 32) (rC (mG 136)), [.int a0], [], μ)) rfl ?_
  rcases mIte hr with ⟨h1, hr⟩ | ⟨h1, hr⟩
  · refine gLs1 (w := 1) h1 rfl ?_
    refine mGo.steps 1 (c' := (136, List.drop 3 mC136, [.int a0], [.int 1], μ)) rfl ?_
    obtain rfl := Option.some.inj hr
    rw [show r = _ from hC]
    exact gIret rfl
  · refine gLs0 (w := 1) h1 rfl ?_
    rcases mIte hr with ⟨h2, hr⟩ | ⟨h2, hr⟩
    · refine gLs1 (w := 2) h2 rfl ?_
      refine mGo.steps 1 (c' := (136, List.drop 5 mC136, [.int a0], [.int 2], μ)) rfl ?_
      obtain rfl := Option.some.inj hr
      rw [show r = _ from hC]
      exact gIret rfl
    · refine gLs0 (w := 2) h2 rfl ?_
      refine mGo.steps 1 (c' := (136, List.drop 7 mC136, [.int a0], [.int 4], μ)) rfl ?_
      obtain rfl := Option.some.inj hr
      rw [show r = _ from hC]
      exact gIret rfl

/-! 53: TunnelFabric$Link.cellsPerTick(I)I -/
def s53_15 (μ : mM) (a0 : Nat) (a1 : Int32) (t0 : Int32) (t1 : Int32) : Option Int32 :=
  some (t1 * t0)
set_option maxRecDepth 20000 in
theorem t53_15 (μ : mM) (a0 : Nat) (a1 : Int32) (t0 : Int32) (t1 : Int32) (w0 : Value) (hw0 : mNotL w0 = true) (w1 : Value) (hw1 : mNotL w1 = true) (w2 : Value) (hw2 : mNotL w2 = true) {o : Int32} {r : Option Value × mM} (hr : s53_15 μ a0 a1 t0 t1 = some o) (hC : r = (some (.int o), μ)) : mGo mG (53, List.drop 15 mC53, [w0, w1, w2], [.int t0, .int t1], μ) r := by
  unfold s53_15 at hr
  refine mGo.steps 1 (c' := (53, List.drop 16 mC53, [w0, w1, w2], [.int (t1 * t0)], μ)) rfl ?_
  obtain rfl := Option.some.inj hr
  rw [show r = _ from hC]
  exact gIret rfl
def s53_5 (μ : mM) (a0 : Nat) (a1 : Int32) (t0 : Int32) : Option Int32 :=
  if (mS μ a0).1 = 2 then (s136 μ (mI μ a0 0)).bind fun q2 => if (mI μ a0 1) = 0 then (s53_15 μ a0 a1 2 q2) else (s53_15 μ a0 a1 t0 q2) else none
set_option maxRecDepth 20000 in
theorem t53_5 (μ : mM) (a0 : Nat) (a1 : Int32) (t0 : Int32) (w1 : Value) (hw1 : mNotL w1 = true) (w2 : Value) (hw2 : mNotL w2 = true) {o : Int32} {r : Option Value × mM} (hr : s53_5 μ a0 a1 t0 = some o) (hC : r = (some (.int o), μ)) : mGo mG (53, List.drop 5 mC53, [.ref a0, w1, w2], [.int t0], μ) r := by
  unfold s53_5 at hr
  refine gSt1 (L := [.ref a0, w1, w2]) (q := 2) (w := .int t0) (is := List.drop 6 mC53) (st := []) (μ := μ) rfl (Nat.le_of_ble_eq_true rfl) hw1 ?_
  refine mGo.steps 1 (c' := (53, List.drop 7 mC53, [.ref a0, w1, .int t0], [.ref a0], μ)) rfl ?_
  obtain ⟨h1, hr⟩ := mIf hr
  refine gGet (is := List.drop 8 mC53) (v := .int (mI μ a0 0)) h1 rfl ?_
  obtain ⟨q2, h3, hr⟩ := mBi hr
  refine mGo.call (z := 136) (as := [.int (mI μ a0 0)]) (y := 53) (is := List.drop 9 mC53) (L := [.ref a0, w1, .int t0]) (st := []) (μ := μ) rfl (t136 h3) ?_
  refine mGo.steps 1 (c' := (53, List.drop 10 mC53, [.ref a0, w1, .int t0], [.ref a0, .int q2], μ)) rfl ?_
  refine gGet (is := List.drop 11 mC53) (v := .int (mI μ a0 1)) h1 rfl ?_
  rcases mIte hr with ⟨h4, hr⟩ | ⟨h4, hr⟩
  · refine gBrT (p := (mI μ a0 1) = 0) (y := 53) (is := List.drop 12 mC53) (L := [.ref a0, w1, .int t0]) (st := [.int q2]) (μ := μ) (t := 28) rfl h4 ?_
    refine mGo.steps 1 (c' := (53, List.drop 15 mC53, [.ref a0, w1, .int t0], [.int 2, .int q2], μ)) rfl ?_
    exact t53_15 μ a0 a1 2 q2 (.ref a0) rfl w1 hw1 (.int t0) rfl hr hC
  · refine gBrF (p := (mI μ a0 1) = 0) (y := 53) (is := List.drop 12 mC53) (L := [.ref a0, w1, .int t0]) (st := [.int q2]) (μ := μ) (t := 28) rfl h4 ?_
    refine mGo.steps 2 (c' := (53, List.drop 15 mC53, [.ref a0, w1, .int t0], [.int t0, .int q2], μ)) rfl ?_
    exact t53_15 μ a0 a1 t0 q2 (.ref a0) rfl w1 hw1 (.int t0) rfl hr hC
def s53 (μ : mM) (a0 : Nat) (a1 : Int32) : Option Int32 :=
  if ¬ a1 = 0 then (s53_5 μ a0 a1 1) else (s53_5 μ a0 a1 3)
set_option maxRecDepth 20000 in
theorem t53 {μ : mM} {a0 : Nat} {a1 : Int32} {o : Int32} (hr : s53 μ a0 a1 = some o) : mEv mG 53 [.ref a0, .int a1] μ (some (.int o)) (μ) := by
  obtain ⟨r, hC⟩ : ∃ r : Option Value × mM, r = (some (.int o), μ) := ⟨_, rfl⟩
  show mGo mG (53, List.drop 0 mC53, [.ref a0, .int a1, .retAddr 0], [], μ) (some (.int o), μ)
  rw [← hC]
  unfold s53 at hr
  refine mGo.steps 1 (c' := (53, List.drop 1 mC53, [.ref a0, .int a1, .retAddr 0], [.int a1], μ)) rfl ?_
  rcases mIte hr with ⟨h5, hr⟩ | ⟨h5, hr⟩
  · refine gBrT (p := ¬ a1 = 0) (y := 53) (is := List.drop 2 mC53) (L := [.ref a0, .int a1, .retAddr 0]) (st := []) (μ := μ) (t := 8) rfl h5 ?_
    refine mGo.steps 1 (c' := (53, List.drop 5 mC53, [.ref a0, .int a1, .retAddr 0], [.int 1], μ)) rfl ?_
    exact t53_5 μ a0 a1 1 (.int a1) rfl (.retAddr 0) rfl hr hC
  · refine gBrF (p := ¬ a1 = 0) (y := 53) (is := List.drop 2 mC53) (L := [.ref a0, .int a1, .retAddr 0]) (st := []) (μ := μ) (t := 8) rfl h5 ?_
    refine mGo.steps 2 (c' := (53, List.drop 5 mC53, [.ref a0, .int a1, .retAddr 0], [.int 3], μ)) rfl ?_
    exact t53_5 μ a0 a1 3 (.int a1) rfl (.retAddr 0) rfl hr hC

/-! 55: TunnelFabric$Link.carriesCells()Z -/
def s55_10 (μ : mM) (a0 : Nat) (t0 : Int32) : Option Int32 :=
  if t0 = 0 ∨ t0 = 1 then some t0 else none
set_option maxRecDepth 20000 in
theorem t55_10 (μ : mM) (a0 : Nat) (t0 : Int32) (w0 : Value) (hw0 : mNotL w0 = true) {o : Int32} {r : Option Value × mM} (hr : s55_10 μ a0 t0 = some o) (hC : r = (some (.int o), μ)) : mGo mG (55, List.drop 10 mC55, [w0], [.int t0], μ) r := by
  unfold s55_10 at hr
  obtain ⟨h2, hr⟩ := mIf hr
  obtain rfl := Option.some.inj hr
  rw [show r = _ from hC]
  exact gZret rfl h2
def s55_7 (μ : mM) (a0 : Nat) : Option Int32 :=
  s55_10 μ a0 1
set_option maxRecDepth 20000 in
theorem t55_7 (μ : mM) (a0 : Nat) (w0 : Value) (hw0 : mNotL w0 = true) {o : Int32} {r : Option Value × mM} (hr : s55_7 μ a0 = some o) (hC : r = (some (.int o), μ)) : mGo mG (55, List.drop 7 mC55, [w0], [], μ) r := by
  unfold s55_7 at hr
  refine mGo.steps 2 (c' := (55, List.drop 10 mC55, [w0], [.int 1], μ)) rfl ?_
  exact t55_10 μ a0 1 w0 hw0 hr hC
def s55 (μ : mM) (a0 : Nat) : Option Int32 :=
  if (mS μ a0).1 = 2 then if (mI μ a0 2) = 0 then (s55_7 μ a0) else (if ¬ (mI μ a0 2) = 1 then (s55_10 μ a0 0) else (s55_7 μ a0)) else none
set_option maxRecDepth 20000 in
theorem t55 {μ : mM} {a0 : Nat} {o : Int32} (hr : s55 μ a0 = some o) : mEv mG 55 [.ref a0] μ (some (.int o)) (μ) := by
  obtain ⟨r, hC⟩ : ∃ r : Option Value × mM, r = (some (.int o), μ) := ⟨_, rfl⟩
  show mGo mG (55, List.drop 0 mC55, [.ref a0], [], μ) (some (.int o), μ)
  rw [← hC]
  unfold s55 at hr
  refine mGo.steps 1 (c' := (55, List.drop 1 mC55, [.ref a0], [.ref a0], μ)) rfl ?_
  obtain ⟨h1, hr⟩ := mIf hr
  refine gGet (is := List.drop 2 mC55) (v := .int (mI μ a0 2)) h1 rfl ?_
  rcases mIte hr with ⟨h4, hr⟩ | ⟨h4, hr⟩
  · refine gBrT (p := (mI μ a0 2) = 0) (y := 55) (is := List.drop 3 mC55) (L := [.ref a0]) (st := []) (μ := μ) (t := 15) rfl h4 ?_
    exact t55_7 μ a0 (.ref a0) rfl hr hC
  · refine gBrF (p := (mI μ a0 2) = 0) (y := 55) (is := List.drop 3 mC55) (L := [.ref a0]) (st := []) (μ := μ) (t := 15) rfl h4 ?_
    refine mGo.steps 1 (c' := (55, List.drop 4 mC55, [.ref a0], [.ref a0], μ)) rfl ?_
    refine gGet (is := List.drop 5 mC55) (v := .int (mI μ a0 2)) h1 rfl ?_
    refine mGo.steps 1 (c' := (55, List.drop 6 mC55, [.ref a0], [.int 1, .int (mI μ a0 2)], μ)) rfl ?_
    rcases mIte hr with ⟨h3, hr⟩ | ⟨h3, hr⟩
    · refine gBrT (p := ¬ (mI μ a0 2) = 1) (y := 55) (is := List.drop 7 mC55) (L := [.ref a0]) (st := []) (μ := μ) (t := 19) rfl h3 ?_
      refine mGo.steps 1 (c' := (55, List.drop 10 mC55, [.ref a0], [.int 0], μ)) rfl ?_
      exact t55_10 μ a0 0 (.ref a0) rfl hr hC
    · refine gBrF (p := ¬ (mI μ a0 2) = 1) (y := 55) (is := List.drop 7 mC55) (L := [.ref a0]) (st := []) (μ := μ) (t := 19) rfl h3 ?_
      exact t55_7 μ a0 (.ref a0) rfl hr hC

/-! 4: TunnelFabric$Clock.sendOver(LTunnelFabric$Fabric;I)V -/
def s4L7_55 (p0 : Nat) (p1 : Nat) (p2 : Int32) (p3 : Nat) (μ : mM) (v4 : Int32) : Option ((Int32 × mM) ⊕ ((mM) ⊕ mM)) :=
  some (.inl (v4 + 1, μ))
set_option maxRecDepth 20000 in
theorem t4L7_55 (p0 : Nat) (p1 : Nat) (p2 : Int32) (p3 : Nat) (μ : mM) (v4 : Int32) {o : ((Int32 × mM) ⊕ ((mM) ⊕ mM))} {r : Option Value × mM} (hr : s4L7_55 p0 p1 p2 p3 μ v4 = some o) (hC : Sum.elim (fun s' : Int32 × mM => mGo mG (4, List.drop 7 mC4, [.ref p0, .ref p1, .int p2, .ref p3, .int s'.1], [], s'.2) r) (Sum.elim (fun x : mM => ∀ (w0 : Value) (hw0 : mNotL w0 = true) (w1 : Value) (hw1 : mNotL w1 = true) (w2 : Value) (hw2 : mNotL w2 = true) (w3 : Value) (hw3 : mNotL w3 = true) (w4 : Value) (hw4 : mNotL w4 = true), mGo mG (4, List.drop 57 mC4, [w0, w1, w2, w3, w4], [], x) r) (fun y : mM => r = (none, y))) o) : mGo mG (4, List.drop 55 mC4, [.ref p0, .ref p1, .int p2, .ref p3, .int v4], [], μ) r := by
  unfold s4L7_55 at hr
  refine mGo.steps 2 (c' := (4, List.drop 7 mC4, [.ref p0, .ref p1, .int p2, .ref p3, .int (v4 + 1)], [], μ)) rfl ?_
  obtain rfl := Option.some.inj hr
  exact hC
def s4L7 (p0 : Nat) (p1 : Nat) (p2 : Int32) (p3 : Nat) (s : Int32 × mM) : Option ((Int32 × mM) ⊕ ((mM) ⊕ mM)) :=
  if 2 ≤ s.1 then (some (.inr (.inl s.2))) else (if (mS s.2 p3).1 = 2 then if (mS s.2 (mP s.2 p3 7)).1 = 10 ∧ mInb s.1 (mS s.2 (mP s.2 p3 7)).2 then (some (mUI s.2 (mP s.2 p3 7) (Int32.toNatClampNeg s.1) 0)).bind fun μ7 => (s55 μ7 p3).bind fun q8 => if q8 = 0 then (s4L7_55 p0 p1 p2 p3 μ7 s.1) else (if (mS μ7 p0).1 = 0 then (s5 μ7 p0 p1 p2 s.1).bind fun q11 => if q11.1 = 0 then (s4L7_55 p0 p1 p2 p3 q11.2 s.1) else (if (mS q11.2 p3).1 = 2 then (s53 q11.2 p3 s.1).bind fun q14 => if (mS q11.2 p0).1 = 0 then (some (mUI q11.2 p0 1 q14)).bind fun μ17 => (s6 μ17 p0 p1 s.1).bind fun q18 => if (mS q18 p3).1 = 2 then if (mS q18 (mP q18 p3 6)).1 = 10 ∧ mInb s.1 (mS q18 (mP q18 p3 6)).2 then if (mS q18 p0).1 = 0 then (s7 q18 p0 p1 s.1 (mI q18 (mP q18 p3 6) (Int32.toNatClampNeg s.1))).bind fun q23 => if (mS q23.2 (mP q18 p3 6)).1 = 10 ∧ mInb s.1 (mS q23.2 (mP q18 p3 6)).2 then (some (mUI q23.2 (mP q18 p3 6) (Int32.toNatClampNeg s.1) q23.1)).bind fun μ26 => if (mS μ26 p3).1 = 2 then (s53 μ26 p3 s.1).bind fun q28 => if (mS μ26 p0).1 = 0 then if (mS μ26 (mP μ26 p3 7)).1 = 10 ∧ mInb s.1 (mS μ26 (mP μ26 p3 7)).2 then (some (mUI μ26 (mP μ26 p3 7) (Int32.toNatClampNeg s.1) (q28 - (mI μ26 p0 1)))).bind fun μ32 => s4L7_55 p0 p1 p2 p3 μ32 s.1 else none else none else none else none else none else none else none else none else none) else none) else none else none)
set_option maxRecDepth 20000 in
theorem t4L7 (p0 : Nat) (p1 : Nat) (p2 : Int32) (p3 : Nat) {r : Option Value × mM} (s : Int32 × mM) (o : ((Int32 × mM) ⊕ ((mM) ⊕ mM))) (hr : s4L7 p0 p1 p2 p3 s = some o) (hC : Sum.elim (fun s' : Int32 × mM => mGo mG (4, List.drop 7 mC4, [.ref p0, .ref p1, .int p2, .ref p3, .int s'.1], [], s'.2) r) (Sum.elim (fun x : mM => ∀ (w0 : Value) (hw0 : mNotL w0 = true) (w1 : Value) (hw1 : mNotL w1 = true) (w2 : Value) (hw2 : mNotL w2 = true) (w3 : Value) (hw3 : mNotL w3 = true) (w4 : Value) (hw4 : mNotL w4 = true), mGo mG (4, List.drop 57 mC4, [w0, w1, w2, w3, w4], [], x) r) (fun y : mM => r = (none, y))) o) : mGo mG (4, List.drop 7 mC4, [.ref p0, .ref p1, .int p2, .ref p3, .int s.1], [], s.2) r := by
  unfold s4L7 at hr
  refine mGo.steps 2 (c' := (4, List.drop 9 mC4, [.ref p0, .ref p1, .int p2, .ref p3, .int s.1], [.int 2, .int s.1], s.2)) rfl ?_
  rcases mIte hr with ⟨h35, hr⟩ | ⟨h35, hr⟩
  · refine gBrT (p := 2 ≤ s.1) (y := 4) (is := List.drop 10 mC4) (L := [.ref p0, .ref p1, .int p2, .ref p3, .int s.1]) (st := []) (μ := s.2) (t := 106) rfl h35 ?_
    obtain rfl := Option.some.inj hr
    exact hC (.ref p0) rfl (.ref p1) rfl (.int p2) rfl (.ref p3) rfl (.int s.1) rfl
  · refine gBrF (p := 2 ≤ s.1) (y := 4) (is := List.drop 10 mC4) (L := [.ref p0, .ref p1, .int p2, .ref p3, .int s.1]) (st := []) (μ := s.2) (t := 106) rfl h35 ?_
    refine mGo.steps 1 (c' := (4, List.drop 11 mC4, [.ref p0, .ref p1, .int p2, .ref p3, .int s.1], [.ref p3], s.2)) rfl ?_
    obtain ⟨h5, hr⟩ := mIf hr
    refine gGet (is := List.drop 12 mC4) (v := .ref (mP s.2 p3 7)) h5 rfl ?_
    refine mGo.steps 2 (c' := (4, List.drop 14 mC4, [.ref p0, .ref p1, .int p2, .ref p3, .int s.1], [.int 0, .int s.1, .ref (mP s.2 p3 7)], s.2)) rfl ?_
    obtain ⟨h6, hr⟩ := mIf hr
    replace hr := mBs hr
    refine gIast (is := List.drop 15 mC4) h6 ?_
    let μ7 : mM := mUI s.2 (mP s.2 p3 7) (Int32.toNatClampNeg s.1) 0
    refine mGo.steps 1 (c' := (4, List.drop 16 mC4, [.ref p0, .ref p1, .int p2, .ref p3, .int s.1], [.ref p3], μ7)) rfl ?_
    obtain ⟨q8, h9, hr⟩ := mBi hr
    refine gCall (z := 55) (n := 0) (f := 0) (kind := 1) (a := p3) (As := []) (y := 4) (is := List.drop 17 mC4) (L := [.ref p0, .ref p1, .int p2, .ref p3, .int s.1]) (rest := []) (μ := μ7) rfl (by decide) (by decide) ⟨rfl, rfl⟩ rfl h5 (Nat.le_of_ble_eq_true rfl) (Nat.le_of_ble_eq_true rfl) (t55 h9) ?_
    rcases mIte hr with ⟨h34, hr⟩ | ⟨h34, hr⟩
    · refine gBrT (p := q8 = 0) (y := 4) (is := List.drop 18 mC4) (L := [.ref p0, .ref p1, .int p2, .ref p3, .int s.1]) (st := []) (μ := μ7) (t := 100) rfl h34 ?_
      exact t4L7_55 p0 p1 p2 p3 μ7 s.1 hr hC
    · refine gBrF (p := q8 = 0) (y := 4) (is := List.drop 18 mC4) (L := [.ref p0, .ref p1, .int p2, .ref p3, .int s.1]) (st := []) (μ := μ7) (t := 100) rfl h34 ?_
      refine mGo.steps 4 (c' := (4, List.drop 22 mC4, [.ref p0, .ref p1, .int p2, .ref p3, .int s.1], [.int s.1, .int p2, .ref p1, .ref p0], μ7)) rfl ?_
      obtain ⟨h10, hr⟩ := mIf hr
      obtain ⟨q11, h12, hr⟩ := mBi hr
      refine gCall (z := 5) (n := 3) (f := 0) (kind := 1) (a := p0) (As := [.ref p1, .int p2, .int s.1]) (y := 4) (is := List.drop 23 mC4) (L := [.ref p0, .ref p1, .int p2, .ref p3, .int s.1]) (rest := []) (μ := μ7) rfl (by decide) (by decide) ⟨rfl, rfl⟩ rfl h10 (Nat.le_of_ble_eq_true rfl) (Nat.le_of_ble_eq_true rfl) (t5 h12) ?_
      rcases mIte hr with ⟨h33, hr⟩ | ⟨h33, hr⟩
      · refine gBrT (p := q11.1 = 0) (y := 4) (is := List.drop 24 mC4) (L := [.ref p0, .ref p1, .int p2, .ref p3, .int s.1]) (st := []) (μ := q11.2) (t := 100) rfl h33 ?_
        exact t4L7_55 p0 p1 p2 p3 q11.2 s.1 hr hC
      · refine gBrF (p := q11.1 = 0) (y := 4) (is := List.drop 24 mC4) (L := [.ref p0, .ref p1, .int p2, .ref p3, .int s.1]) (st := []) (μ := q11.2) (t := 100) rfl h33 ?_
        refine mGo.steps 3 (c' := (4, List.drop 27 mC4, [.ref p0, .ref p1, .int p2, .ref p3, .int s.1], [.int s.1, .ref p3, .ref p0], q11.2)) rfl ?_
        obtain ⟨h13, hr⟩ := mIf hr
        obtain ⟨q14, h15, hr⟩ := mBi hr
        refine gCall (z := 53) (n := 1) (f := 0) (kind := 1) (a := p3) (As := [.int s.1]) (y := 4) (is := List.drop 28 mC4) (L := [.ref p0, .ref p1, .int p2, .ref p3, .int s.1]) (rest := [.ref p0]) (μ := q11.2) rfl (by decide) (by decide) ⟨rfl, rfl⟩ rfl h13 (Nat.le_of_ble_eq_true rfl) (Nat.le_of_ble_eq_true rfl) (t53 h15) ?_
        obtain ⟨h16, hr⟩ := mIf hr
        replace hr := mBs hr
        refine gPut (is := List.drop 29 mC4) (μ' := mUI q11.2 p0 1 q14) h16 rfl ?_
        let μ17 : mM := mUI q11.2 p0 1 q14
        refine mGo.steps 3 (c' := (4, List.drop 32 mC4, [.ref p0, .ref p1, .int p2, .ref p3, .int s.1], [.int s.1, .ref p1, .ref p0], μ17)) rfl ?_
        obtain ⟨q18, h19, hr⟩ := mBi hr
        refine gCall (z := 6) (n := 2) (f := 0) (kind := 1) (a := p0) (As := [.ref p1, .int s.1]) (y := 4) (is := List.drop 33 mC4) (L := [.ref p0, .ref p1, .int p2, .ref p3, .int s.1]) (rest := []) (μ := μ17) rfl (by decide) (by decide) ⟨rfl, rfl⟩ rfl h16 (Nat.le_of_ble_eq_true rfl) (Nat.le_of_ble_eq_true rfl) (t6 h19) ?_
        refine mGo.steps 1 (c' := (4, List.drop 34 mC4, [.ref p0, .ref p1, .int p2, .ref p3, .int s.1], [.ref p3], q18)) rfl ?_
        obtain ⟨h20, hr⟩ := mIf hr
        refine gGet (is := List.drop 35 mC4) (v := .ref (mP q18 p3 6)) h20 rfl ?_
        refine mGo.steps 5 (c' := (4, List.drop 40 mC4, [.ref p0, .ref p1, .int p2, .ref p3, .int s.1], [.ref p3, .int s.1, .ref p1, .ref p0, .int s.1, .ref (mP q18 p3 6)], q18)) rfl ?_
        refine gGet (is := List.drop 41 mC4) (v := .ref (mP q18 p3 6)) h20 rfl ?_
        refine mGo.steps 1 (c' := (4, List.drop 42 mC4, [.ref p0, .ref p1, .int p2, .ref p3, .int s.1], [.int s.1, .ref (mP q18 p3 6), .int s.1, .ref p1, .ref p0, .int s.1, .ref (mP q18 p3 6)], q18)) rfl ?_
        obtain ⟨h21, hr⟩ := mIf hr
        refine gIald (is := List.drop 43 mC4) h21 ?_
        obtain ⟨h22, hr⟩ := mIf hr
        obtain ⟨q23, h24, hr⟩ := mBi hr
        refine gCall (z := 7) (n := 3) (f := 0) (kind := 1) (a := p0) (As := [.ref p1, .int s.1, .int (mI q18 (mP q18 p3 6) (Int32.toNatClampNeg s.1))]) (y := 4) (is := List.drop 44 mC4) (L := [.ref p0, .ref p1, .int p2, .ref p3, .int s.1]) (rest := [.int s.1, .ref (mP q18 p3 6)]) (μ := q18) rfl (by decide) (by decide) ⟨rfl, rfl⟩ rfl h22 (Nat.le_of_ble_eq_true rfl) (Nat.le_of_ble_eq_true rfl) (t7 h24) ?_
        obtain ⟨h25, hr⟩ := mIf hr
        replace hr := mBs hr
        refine gIast (is := List.drop 45 mC4) h25 ?_
        let μ26 : mM := mUI q23.2 (mP q18 p3 6) (Int32.toNatClampNeg s.1) q23.1
        refine mGo.steps 1 (c' := (4, List.drop 46 mC4, [.ref p0, .ref p1, .int p2, .ref p3, .int s.1], [.ref p3], μ26)) rfl ?_
        obtain ⟨h27, hr⟩ := mIf hr
        refine gGet (is := List.drop 47 mC4) (v := .ref (mP μ26 p3 7)) h27 rfl ?_
        refine mGo.steps 3 (c' := (4, List.drop 50 mC4, [.ref p0, .ref p1, .int p2, .ref p3, .int s.1], [.int s.1, .ref p3, .int s.1, .ref (mP μ26 p3 7)], μ26)) rfl ?_
        obtain ⟨q28, h29, hr⟩ := mBi hr
        refine gCall (z := 53) (n := 1) (f := 0) (kind := 1) (a := p3) (As := [.int s.1]) (y := 4) (is := List.drop 51 mC4) (L := [.ref p0, .ref p1, .int p2, .ref p3, .int s.1]) (rest := [.int s.1, .ref (mP μ26 p3 7)]) (μ := μ26) rfl (by decide) (by decide) ⟨rfl, rfl⟩ rfl h27 (Nat.le_of_ble_eq_true rfl) (Nat.le_of_ble_eq_true rfl) (t53 h29) ?_
        refine mGo.steps 1 (c' := (4, List.drop 52 mC4, [.ref p0, .ref p1, .int p2, .ref p3, .int s.1], [.ref p0, .int q28, .int s.1, .ref (mP μ26 p3 7)], μ26)) rfl ?_
        obtain ⟨h30, hr⟩ := mIf hr
        refine gGet (is := List.drop 53 mC4) (v := .int (mI μ26 p0 1)) h30 rfl ?_
        refine mGo.steps 1 (c' := (4, List.drop 54 mC4, [.ref p0, .ref p1, .int p2, .ref p3, .int s.1], [.int (q28 - (mI μ26 p0 1)), .int s.1, .ref (mP μ26 p3 7)], μ26)) rfl ?_
        obtain ⟨h31, hr⟩ := mIf hr
        replace hr := mBs hr
        refine gIast (is := List.drop 55 mC4) h31 ?_
        let μ32 : mM := mUI μ26 (mP μ26 p3 7) (Int32.toNatClampNeg s.1) (q28 - (mI μ26 p0 1))
        exact t4L7_55 p0 p1 p2 p3 μ32 s.1 hr hC
theorem t4L7l (p0 : Nat) (p1 : Nat) (p2 : Int32) (p3 : Nat) {r : Option Value × mM} (n : Nat) (s : Int32 × mM) (o : (mM) ⊕ mM) (hr : mLoop (s4L7 p0 p1 p2 p3) n s = some o) (hC : Sum.elim (fun x : mM => ∀ (w0 : Value) (hw0 : mNotL w0 = true) (w1 : Value) (hw1 : mNotL w1 = true) (w2 : Value) (hw2 : mNotL w2 = true) (w3 : Value) (hw3 : mNotL w3 = true) (w4 : Value) (hw4 : mNotL w4 = true), mGo mG (4, List.drop 57 mC4, [w0, w1, w2, w3, w4], [], x) r) (fun y : mM => r = (none, y)) o) : mGo mG (4, List.drop 7 mC4, [.ref p0, .ref p1, .int p2, .ref p3, .int s.1], [], s.2) r :=
  mLoop_go (Hd := (fun s' : Int32 × mM => mGo mG (4, List.drop 7 mC4, [.ref p0, .ref p1, .int p2, .ref p3, .int s'.1], [], s'.2) r)) (fun s o hb hC => t4L7 p0 p1 p2 p3 s o hb hC) n s o hr hC
def s4 (μ : mM) (a0 : Nat) (a1 : Nat) (a2 : Int32) : Option mM :=
  if (mS μ a1).1 = 1 then (s18 μ a1 a2).bind fun q2 => if (mS μ q2).1 = 4 then (mLoop (s4L7 a0 a1 a2 (mP μ q2 6)) 1000 (0, μ)).bind fun o36 => Sum.elim (fun x37 => some x37) (fun y38 => some y38) o36 else none else none
set_option maxRecDepth 20000 in
theorem t4 {μ : mM} {a0 : Nat} {a1 : Nat} {a2 : Int32} {o : mM} (hr : s4 μ a0 a1 a2 = some o) : mEv mG 4 [.ref a0, .ref a1, .int a2] μ (none) (o) := by
  obtain ⟨r, hC⟩ : ∃ r : Option Value × mM, r = (none, o) := ⟨_, rfl⟩
  show mGo mG (4, List.drop 0 mC4, [.ref a0, .ref a1, .int a2, .retAddr 0, .retAddr 0], [], μ) (none, o)
  rw [← hC]
  unfold s4 at hr
  refine mGo.steps 2 (c' := (4, List.drop 2 mC4, [.ref a0, .ref a1, .int a2, .retAddr 0, .retAddr 0], [.int a2, .ref a1], μ)) rfl ?_
  obtain ⟨h1, hr⟩ := mIf hr
  obtain ⟨q2, h3, hr⟩ := mBi hr
  refine gCall (z := 18) (n := 1) (f := 0) (kind := 1) (a := a1) (As := [.int a2]) (y := 4) (is := List.drop 3 mC4) (L := [.ref a0, .ref a1, .int a2, .retAddr 0, .retAddr 0]) (rest := []) (μ := μ) rfl (by decide) (by decide) ⟨rfl, rfl⟩ rfl h1 (Nat.le_of_ble_eq_true rfl) (Nat.le_of_ble_eq_true rfl) (t18 h3) ?_
  obtain ⟨h4, hr⟩ := mIf hr
  refine gGet (is := List.drop 4 mC4) (v := .ref (mP μ q2 6)) h4 rfl ?_
  refine mGo.steps 3 (c' := (4, List.drop 7 mC4, [.ref a0, .ref a1, .int a2, .ref (mP μ q2 6), .int 0], [], μ)) rfl ?_
  obtain ⟨o36, h39, hr⟩ := mBi hr
  refine t4L7l a0 a1 a2 (mP μ q2 6) 1000 (0, μ) o36 h39 ?_ 
  cases o36 with
  | inl x37 =>
    show ∀ (w0 : Value) (hw0 : mNotL w0 = true) (w1 : Value) (hw1 : mNotL w1 = true) (w2 : Value) (hw2 : mNotL w2 = true) (w3 : Value) (hw3 : mNotL w3 = true) (w4 : Value) (hw4 : mNotL w4 = true), mGo mG (4, List.drop 57 mC4, [w0, w1, w2, w3, w4], [], x37) r
    intro w0 hw0 w1 hw1 w2 hw2 w3 hw3 w4 hw4
    replace hr : (_) = some _ := hr
    obtain rfl := Option.some.inj hr
    rw [show r = _ from hC]
    exact gVret rfl
  | inr y38 =>
    obtain rfl := Option.some.inj hr
    exact hC

/-! 94: TunnelFabric$Way.move()I -/
def s94L7_36 (p0 : Nat) (μ : mM) (v1 : Int32) : Option ((Int32 × mM) ⊕ ((mM) ⊕ (Int32 × mM))) :=
  if (mS μ p0).1 = 7 then if (mS μ (mP μ p0 7)).1 = 10 ∧ mInb v1 (mS μ (mP μ p0 7)).2 then if (mS μ (mP μ p0 8)).1 = 10 ∧ mInb v1 (mS μ (mP μ p0 8)).2 then (some (mUI μ (mP μ p0 7) (Int32.toNatClampNeg v1) ((mI μ (mP μ p0 7) (Int32.toNatClampNeg v1)) + (mI μ (mP μ p0 8) (Int32.toNatClampNeg v1))))).bind fun μ9 => if (mS μ9 (mP μ9 p0 8)).1 = 10 ∧ mInb v1 (mS μ9 (mP μ9 p0 8)).2 then (some (mUI μ9 (mP μ9 p0 8) (Int32.toNatClampNeg v1) 0)).bind fun μ11 => some (.inl (v1 + 1, μ11)) else none else none else none else none
set_option maxRecDepth 20000 in
theorem t94L7_36 (p0 : Nat) (μ : mM) (v1 : Int32) {o : ((Int32 × mM) ⊕ ((mM) ⊕ (Int32 × mM)))} {r : Option Value × mM} (hr : s94L7_36 p0 μ v1 = some o) (hC : Sum.elim (fun s' : Int32 × mM => mGo mG (94, List.drop 7 mC94, [.ref p0, .int s'.1], [], s'.2) r) (Sum.elim (fun x : mM => ∀ (w1 : Value) (hw1 : mNotL w1 = true), mGo mG (94, List.drop 54 mC94, [.ref p0, w1], [], x) r) (fun y : (Int32 × mM) => r = (some (.int y.1), y.2))) o) : mGo mG (94, List.drop 36 mC94, [.ref p0, .int v1], [], μ) r := by
  unfold s94L7_36 at hr
  refine mGo.steps 1 (c' := (94, List.drop 37 mC94, [.ref p0, .int v1], [.ref p0], μ)) rfl ?_
  obtain ⟨h6, hr⟩ := mIf hr
  refine gGet (is := List.drop 38 mC94) (v := .ref (mP μ p0 7)) h6 rfl ?_
  refine mGo.steps 2 (c' := (94, List.drop 40 mC94, [.ref p0, .int v1], [.int v1, .ref (mP μ p0 7), .int v1, .ref (mP μ p0 7)], μ)) rfl ?_
  obtain ⟨h7, hr⟩ := mIf hr
  refine gIald (is := List.drop 41 mC94) h7 ?_
  refine mGo.steps 1 (c' := (94, List.drop 42 mC94, [.ref p0, .int v1], [.ref p0, .int (mI μ (mP μ p0 7) (Int32.toNatClampNeg v1)), .int v1, .ref (mP μ p0 7)], μ)) rfl ?_
  refine gGet (is := List.drop 43 mC94) (v := .ref (mP μ p0 8)) h6 rfl ?_
  refine mGo.steps 1 (c' := (94, List.drop 44 mC94, [.ref p0, .int v1], [.int v1, .ref (mP μ p0 8), .int (mI μ (mP μ p0 7) (Int32.toNatClampNeg v1)), .int v1, .ref (mP μ p0 7)], μ)) rfl ?_
  obtain ⟨h8, hr⟩ := mIf hr
  refine gIald (is := List.drop 45 mC94) h8 ?_
  refine mGo.steps 1 (c' := (94, List.drop 46 mC94, [.ref p0, .int v1], [.int ((mI μ (mP μ p0 7) (Int32.toNatClampNeg v1)) + (mI μ (mP μ p0 8) (Int32.toNatClampNeg v1))), .int v1, .ref (mP μ p0 7)], μ)) rfl ?_
  replace hr := mBs hr
  refine gIast (is := List.drop 47 mC94) h7 ?_
  let μ9 : mM := mUI μ (mP μ p0 7) (Int32.toNatClampNeg v1) ((mI μ (mP μ p0 7) (Int32.toNatClampNeg v1)) + (mI μ (mP μ p0 8) (Int32.toNatClampNeg v1)))
  refine mGo.steps 1 (c' := (94, List.drop 48 mC94, [.ref p0, .int v1], [.ref p0], μ9)) rfl ?_
  refine gGet (is := List.drop 49 mC94) (v := .ref (mP μ9 p0 8)) h6 rfl ?_
  refine mGo.steps 2 (c' := (94, List.drop 51 mC94, [.ref p0, .int v1], [.int 0, .int v1, .ref (mP μ9 p0 8)], μ9)) rfl ?_
  obtain ⟨h10, hr⟩ := mIf hr
  replace hr := mBs hr
  refine gIast (is := List.drop 52 mC94) h10 ?_
  let μ11 : mM := mUI μ9 (mP μ9 p0 8) (Int32.toNatClampNeg v1) 0
  refine mGo.steps 2 (c' := (94, List.drop 7 mC94, [.ref p0, .int (v1 + 1)], [], μ11)) rfl ?_
  obtain rfl := Option.some.inj hr
  exact hC
def s94L7 (p0 : Nat) (s : Int32 × mM) : Option ((Int32 × mM) ⊕ ((mM) ⊕ (Int32 × mM))) :=
  if (mS s.2 p0).1 = 7 then if (mI s.2 p0 1) ≤ s.1 then (some (.inr (.inl s.2))) else (if ¬ s.1 = 0 then (if (mS s.2 (mP s.2 p0 7)).1 = 10 ∧ mInb (s.1 - 1) (mS s.2 (mP s.2 p0 7)).2 then if (mS s.2 (mP s.2 p0 8)).1 = 10 ∧ mInb s.1 (mS s.2 (mP s.2 p0 8)).2 then (some (mUI s.2 (mP s.2 p0 7) (Int32.toNatClampNeg (s.1 - 1)) ((mI s.2 (mP s.2 p0 7) (Int32.toNatClampNeg (s.1 - 1))) - (mI s.2 (mP s.2 p0 8) (Int32.toNatClampNeg s.1))))).bind fun μ5 => s94L7_36 p0 μ5 s.1 else none else none) else (if (mS s.2 (mP s.2 p0 8)).1 = 10 ∧ mInb s.1 (mS s.2 (mP s.2 p0 8)).2 then (some (mUI s.2 p0 2 ((mI s.2 p0 2) - (mI s.2 (mP s.2 p0 8) (Int32.toNatClampNeg s.1))))).bind fun μ13 => s94L7_36 p0 μ13 s.1 else none)) else none
set_option maxRecDepth 20000 in
theorem t94L7 (p0 : Nat) {r : Option Value × mM} (s : Int32 × mM) (o : ((Int32 × mM) ⊕ ((mM) ⊕ (Int32 × mM)))) (hr : s94L7 p0 s = some o) (hC : Sum.elim (fun s' : Int32 × mM => mGo mG (94, List.drop 7 mC94, [.ref p0, .int s'.1], [], s'.2) r) (Sum.elim (fun x : mM => ∀ (w1 : Value) (hw1 : mNotL w1 = true), mGo mG (94, List.drop 54 mC94, [.ref p0, w1], [], x) r) (fun y : (Int32 × mM) => r = (some (.int y.1), y.2))) o) : mGo mG (94, List.drop 7 mC94, [.ref p0, .int s.1], [], s.2) r := by
  unfold s94L7 at hr
  refine mGo.steps 2 (c' := (94, List.drop 9 mC94, [.ref p0, .int s.1], [.ref p0, .int s.1], s.2)) rfl ?_
  obtain ⟨h2, hr⟩ := mIf hr
  refine gGet (is := List.drop 10 mC94) (v := .int (mI s.2 p0 1)) h2 rfl ?_
  rcases mIte hr with ⟨h15, hr⟩ | ⟨h15, hr⟩
  · refine gBrT (p := (mI s.2 p0 1) ≤ s.1) (y := 94) (is := List.drop 11 mC94) (L := [.ref p0, .int s.1]) (st := []) (μ := s.2) (t := 86) rfl h15 ?_
    obtain rfl := Option.some.inj hr
    exact hC (.int s.1) rfl
  · refine gBrF (p := (mI s.2 p0 1) ≤ s.1) (y := 94) (is := List.drop 11 mC94) (L := [.ref p0, .int s.1]) (st := []) (μ := s.2) (t := 86) rfl h15 ?_
    refine mGo.steps 1 (c' := (94, List.drop 12 mC94, [.ref p0, .int s.1], [.int s.1], s.2)) rfl ?_
    rcases mIte hr with ⟨h14, hr⟩ | ⟨h14, hr⟩
    · refine gBrT (p := ¬ s.1 = 0) (y := 94) (is := List.drop 13 mC94) (L := [.ref p0, .int s.1]) (st := []) (μ := s.2) (t := 41) rfl h14 ?_
      refine mGo.steps 1 (c' := (94, List.drop 24 mC94, [.ref p0, .int s.1], [.ref p0], s.2)) rfl ?_
      refine gGet (is := List.drop 25 mC94) (v := .ref (mP s.2 p0 7)) h2 rfl ?_
      refine mGo.steps 4 (c' := (94, List.drop 29 mC94, [.ref p0, .int s.1], [.int (s.1 - 1), .ref (mP s.2 p0 7), .int (s.1 - 1), .ref (mP s.2 p0 7)], s.2)) rfl ?_
      obtain ⟨h3, hr⟩ := mIf hr
      refine gIald (is := List.drop 30 mC94) h3 ?_
      refine mGo.steps 1 (c' := (94, List.drop 31 mC94, [.ref p0, .int s.1], [.ref p0, .int (mI s.2 (mP s.2 p0 7) (Int32.toNatClampNeg (s.1 - 1))), .int (s.1 - 1), .ref (mP s.2 p0 7)], s.2)) rfl ?_
      refine gGet (is := List.drop 32 mC94) (v := .ref (mP s.2 p0 8)) h2 rfl ?_
      refine mGo.steps 1 (c' := (94, List.drop 33 mC94, [.ref p0, .int s.1], [.int s.1, .ref (mP s.2 p0 8), .int (mI s.2 (mP s.2 p0 7) (Int32.toNatClampNeg (s.1 - 1))), .int (s.1 - 1), .ref (mP s.2 p0 7)], s.2)) rfl ?_
      obtain ⟨h4, hr⟩ := mIf hr
      refine gIald (is := List.drop 34 mC94) h4 ?_
      refine mGo.steps 1 (c' := (94, List.drop 35 mC94, [.ref p0, .int s.1], [.int ((mI s.2 (mP s.2 p0 7) (Int32.toNatClampNeg (s.1 - 1))) - (mI s.2 (mP s.2 p0 8) (Int32.toNatClampNeg s.1))), .int (s.1 - 1), .ref (mP s.2 p0 7)], s.2)) rfl ?_
      replace hr := mBs hr
      refine gIast (is := List.drop 36 mC94) h3 ?_
      let μ5 : mM := mUI s.2 (mP s.2 p0 7) (Int32.toNatClampNeg (s.1 - 1)) ((mI s.2 (mP s.2 p0 7) (Int32.toNatClampNeg (s.1 - 1))) - (mI s.2 (mP s.2 p0 8) (Int32.toNatClampNeg s.1)))
      exact t94L7_36 p0 μ5 s.1 hr hC
    · refine gBrF (p := ¬ s.1 = 0) (y := 94) (is := List.drop 13 mC94) (L := [.ref p0, .int s.1]) (st := []) (μ := s.2) (t := 41) rfl h14 ?_
      refine mGo.steps 2 (c' := (94, List.drop 15 mC94, [.ref p0, .int s.1], [.ref p0, .ref p0], s.2)) rfl ?_
      refine gGet (is := List.drop 16 mC94) (v := .int (mI s.2 p0 2)) h2 rfl ?_
      refine mGo.steps 1 (c' := (94, List.drop 17 mC94, [.ref p0, .int s.1], [.ref p0, .int (mI s.2 p0 2), .ref p0], s.2)) rfl ?_
      refine gGet (is := List.drop 18 mC94) (v := .ref (mP s.2 p0 8)) h2 rfl ?_
      refine mGo.steps 1 (c' := (94, List.drop 19 mC94, [.ref p0, .int s.1], [.int s.1, .ref (mP s.2 p0 8), .int (mI s.2 p0 2), .ref p0], s.2)) rfl ?_
      obtain ⟨h12, hr⟩ := mIf hr
      refine gIald (is := List.drop 20 mC94) h12 ?_
      refine mGo.steps 1 (c' := (94, List.drop 21 mC94, [.ref p0, .int s.1], [.int ((mI s.2 p0 2) - (mI s.2 (mP s.2 p0 8) (Int32.toNatClampNeg s.1))), .ref p0], s.2)) rfl ?_
      replace hr := mBs hr
      refine gPut (is := List.drop 22 mC94) (μ' := mUI s.2 p0 2 ((mI s.2 p0 2) - (mI s.2 (mP s.2 p0 8) (Int32.toNatClampNeg s.1)))) h2 rfl ?_
      let μ13 : mM := mUI s.2 p0 2 ((mI s.2 p0 2) - (mI s.2 (mP s.2 p0 8) (Int32.toNatClampNeg s.1)))
      refine mGo.steps 1 (c' := (94, List.drop 36 mC94, [.ref p0, .int s.1], [], μ13)) rfl ?_
      exact t94L7_36 p0 μ13 s.1 hr hC
theorem t94L7l (p0 : Nat) {r : Option Value × mM} (n : Nat) (s : Int32 × mM) (o : (mM) ⊕ (Int32 × mM)) (hr : mLoop (s94L7 p0) n s = some o) (hC : Sum.elim (fun x : mM => ∀ (w1 : Value) (hw1 : mNotL w1 = true), mGo mG (94, List.drop 54 mC94, [.ref p0, w1], [], x) r) (fun y : (Int32 × mM) => r = (some (.int y.1), y.2)) o) : mGo mG (94, List.drop 7 mC94, [.ref p0, .int s.1], [], s.2) r :=
  mLoop_go (Hd := (fun s' : Int32 × mM => mGo mG (94, List.drop 7 mC94, [.ref p0, .int s'.1], [], s'.2) r)) (fun s o hb hC => t94L7 p0 s o hb hC) n s o hr hC
def s94 (μ : mM) (a0 : Nat) : Option (Int32 × mM) :=
  if (mS μ a0).1 = 7 then if 0 < (mI μ a0 1) then ((mLoop (s94L7 a0) 1000 (0, μ)).bind fun o16 => Sum.elim (fun x17 => if (mS x17 a0).1 = 7 then if (mS x17 (mP x17 a0 7)).1 = 10 ∧ mInb ((mI x17 a0 1) - 1) (mS x17 (mP x17 a0 7)).2 then (some (mUI x17 (mP x17 a0 7) (Int32.toNatClampNeg ((mI x17 a0 1) - 1)) 0)).bind fun μ22 => (some (mUI μ22 a0 3 ((mI μ22 a0 3) + (mI x17 (mP x17 a0 7) (Int32.toNatClampNeg ((mI x17 a0 1) - 1)))))).bind fun μ23 => some (mI x17 (mP x17 a0 7) (Int32.toNatClampNeg ((mI x17 a0 1) - 1)), μ23) else none else none) (fun y18 => some y18) o16) else (some (0, μ)) else none
set_option maxRecDepth 20000 in
theorem t94 {μ : mM} {a0 : Nat} {o : (Int32 × mM)} (hr : s94 μ a0 = some o) : mEv mG 94 [.ref a0] μ (some (.int o.1)) (o.2) := by
  obtain ⟨r, hC⟩ : ∃ r : Option Value × mM, r = (some (.int o.1), o.2) := ⟨_, rfl⟩
  show mGo mG (94, List.drop 0 mC94, [.ref a0, .retAddr 0], [], μ) (some (.int o.1), o.2)
  rw [← hC]
  unfold s94 at hr
  refine mGo.steps 1 (c' := (94, List.drop 1 mC94, [.ref a0, .retAddr 0], [.ref a0], μ)) rfl ?_
  obtain ⟨h1, hr⟩ := mIf hr
  refine gGet (is := List.drop 2 mC94) (v := .int (mI μ a0 1)) h1 rfl ?_
  rcases mIte hr with ⟨h24, hr⟩ | ⟨h24, hr⟩
  · refine gBrT (p := 0 < (mI μ a0 1)) (y := 94) (is := List.drop 3 mC94) (L := [.ref a0, .retAddr 0]) (st := []) (μ := μ) (t := 9) rfl h24 ?_
    refine mGo.steps 2 (c' := (94, List.drop 7 mC94, [.ref a0, .int 0], [], μ)) rfl ?_
    obtain ⟨o16, h19, hr⟩ := mBi hr
    refine t94L7l a0 1000 (0, μ) o16 h19 ?_ 
    cases o16 with
    | inl x17 =>
      show ∀ (w1 : Value) (hw1 : mNotL w1 = true), mGo mG (94, List.drop 54 mC94, [.ref a0, w1], [], x17) r
      intro w1 hw1
      replace hr : (_) = some _ := hr
      refine mGo.steps 1 (c' := (94, List.drop 55 mC94, [.ref a0, w1], [.ref a0], x17)) rfl ?_
      obtain ⟨h20, hr⟩ := mIf hr
      refine gGet (is := List.drop 56 mC94) (v := .ref (mP x17 a0 7)) h20 rfl ?_
      refine mGo.steps 1 (c' := (94, List.drop 57 mC94, [.ref a0, w1], [.ref a0, .ref (mP x17 a0 7)], x17)) rfl ?_
      refine gGet (is := List.drop 58 mC94) (v := .int (mI x17 a0 1)) h20 rfl ?_
      refine mGo.steps 2 (c' := (94, List.drop 60 mC94, [.ref a0, w1], [.int ((mI x17 a0 1) - 1), .ref (mP x17 a0 7)], x17)) rfl ?_
      obtain ⟨h21, hr⟩ := mIf hr
      refine gIald (is := List.drop 61 mC94) h21 ?_
      refine mGo.steps 2 (c' := (94, List.drop 63 mC94, [.ref a0, .int (mI x17 (mP x17 a0 7) (Int32.toNatClampNeg ((mI x17 a0 1) - 1)))], [.ref a0], x17)) rfl ?_
      refine gGet (is := List.drop 64 mC94) (v := .ref (mP x17 a0 7)) h20 rfl ?_
      refine mGo.steps 1 (c' := (94, List.drop 65 mC94, [.ref a0, .int (mI x17 (mP x17 a0 7) (Int32.toNatClampNeg ((mI x17 a0 1) - 1)))], [.ref a0, .ref (mP x17 a0 7)], x17)) rfl ?_
      refine gGet (is := List.drop 66 mC94) (v := .int (mI x17 a0 1)) h20 rfl ?_
      refine mGo.steps 3 (c' := (94, List.drop 69 mC94, [.ref a0, .int (mI x17 (mP x17 a0 7) (Int32.toNatClampNeg ((mI x17 a0 1) - 1)))], [.int 0, .int ((mI x17 a0 1) - 1), .ref (mP x17 a0 7)], x17)) rfl ?_
      replace hr := mBs hr
      refine gIast (is := List.drop 70 mC94) h21 ?_
      let μ22 : mM := mUI x17 (mP x17 a0 7) (Int32.toNatClampNeg ((mI x17 a0 1) - 1)) 0
      refine mGo.steps 2 (c' := (94, List.drop 72 mC94, [.ref a0, .int (mI x17 (mP x17 a0 7) (Int32.toNatClampNeg ((mI x17 a0 1) - 1)))], [.ref a0, .ref a0], μ22)) rfl ?_
      refine gGet (is := List.drop 73 mC94) (v := .int (mI μ22 a0 3)) h20 rfl ?_
      refine mGo.steps 2 (c' := (94, List.drop 75 mC94, [.ref a0, .int (mI x17 (mP x17 a0 7) (Int32.toNatClampNeg ((mI x17 a0 1) - 1)))], [.int ((mI μ22 a0 3) + (mI x17 (mP x17 a0 7) (Int32.toNatClampNeg ((mI x17 a0 1) - 1)))), .ref a0], μ22)) rfl ?_
      replace hr := mBs hr
      refine gPut (is := List.drop 76 mC94) (μ' := mUI μ22 a0 3 ((mI μ22 a0 3) + (mI x17 (mP x17 a0 7) (Int32.toNatClampNeg ((mI x17 a0 1) - 1))))) h20 rfl ?_
      let μ23 : mM := mUI μ22 a0 3 ((mI μ22 a0 3) + (mI x17 (mP x17 a0 7) (Int32.toNatClampNeg ((mI x17 a0 1) - 1))))
      refine mGo.steps 1 (c' := (94, List.drop 77 mC94, [.ref a0, .int (mI x17 (mP x17 a0 7) (Int32.toNatClampNeg ((mI x17 a0 1) - 1)))], [.int (mI x17 (mP x17 a0 7) (Int32.toNatClampNeg ((mI x17 a0 1) - 1)))], μ23)) rfl ?_
      obtain rfl := Option.some.inj hr
      rw [show r = _ from hC]
      exact gIret rfl
    | inr y18 =>
      obtain rfl := Option.some.inj hr
      exact hC
  · refine gBrF (p := 0 < (mI μ a0 1)) (y := 94) (is := List.drop 3 mC94) (L := [.ref a0, .retAddr 0]) (st := []) (μ := μ) (t := 9) rfl h24 ?_
    refine mGo.steps 1 (c' := (94, List.drop 4 mC94, [.ref a0, .retAddr 0], [.int 0], μ)) rfl ?_
    obtain rfl := Option.some.inj hr
    rw [show r = _ from hC]
    exact gIret rfl

/-! 8: TunnelFabric$Clock.moveCells(LTunnelFabric$Fabric;)I -/
def s8L4_31 (p1 : Nat) (μ : mM) (v2 : Int32) (v3 : Int32) : Option ((Int32 × Int32 × mM) ⊕ ((Int32 × mM) ⊕ (Int32 × mM))) :=
  some (.inl (v2, v3 + 1, μ))
set_option maxRecDepth 20000 in
theorem t8L4_31 (p1 : Nat) (μ : mM) (v2 : Int32) (v3 : Int32) (w0 : Value) (hw0 : mNotL w0 = true) {o : ((Int32 × Int32 × mM) ⊕ ((Int32 × mM) ⊕ (Int32 × mM)))} {r : Option Value × mM} (hr : s8L4_31 p1 μ v2 v3 = some o) (hC : Sum.elim (fun s' : Int32 × Int32 × mM => ∀ (w0 : Value) (hw0 : mNotL w0 = true), mGo mG (8, List.drop 4 mC8, [w0, .ref p1, .int s'.1, .int s'.2.1], [], s'.2.2) r) (Sum.elim (fun x : Int32 × mM => ∀ (w0 : Value) (hw0 : mNotL w0 = true) (w1 : Value) (hw1 : mNotL w1 = true) (w3 : Value) (hw3 : mNotL w3 = true), mGo mG (8, List.drop 33 mC8, [w0, w1, .int x.1, w3], [], x.2) r) (fun y : (Int32 × mM) => r = (some (.int y.1), y.2))) o) : mGo mG (8, List.drop 31 mC8, [w0, .ref p1, .int v2, .int v3], [], μ) r := by
  unfold s8L4_31 at hr
  refine mGo.steps 2 (c' := (8, List.drop 4 mC8, [w0, .ref p1, .int v2, .int (v3 + 1)], [], μ)) rfl ?_
  obtain rfl := Option.some.inj hr
  exact hC w0 hw0
def s8L4 (p1 : Nat) (s : Int32 × Int32 × mM) : Option ((Int32 × Int32 × mM) ⊕ ((Int32 × mM) ⊕ (Int32 × mM))) :=
  if 10 ≤ s.2.1 then (some (.inr (.inl (s.1, s.2.2)))) else (if (mS s.2.2 p1).1 = 1 then if (mS s.2.2 (mP s.2.2 p1 1)).1 = 20 + 6 ∧ mInb s.2.1 (mS s.2.2 (mP s.2.2 p1 1)).2 then if (mS s.2.2 (mP s.2.2 (mP s.2.2 p1 1) (Int32.toNatClampNeg s.2.1))).1 = 6 then if (mI s.2.2 (mP s.2.2 (mP s.2.2 p1 1) (Int32.toNatClampNeg s.2.1)) 0) = 0 then (s8L4_31 p1 s.2.2 s.1 s.2.1) else (if (mS s.2.2 (mP s.2.2 (mP s.2.2 (mP s.2.2 p1 1) (Int32.toNatClampNeg s.2.1)) 6)).1 = 7 then (s94 s.2.2 (mP s.2.2 (mP s.2.2 (mP s.2.2 p1 1) (Int32.toNatClampNeg s.2.1)) 6)).bind fun q5 => if (mS q5.2 p1).1 = 1 then if (mS q5.2 (mP q5.2 p1 1)).1 = 20 + 6 ∧ mInb s.2.1 (mS q5.2 (mP q5.2 p1 1)).2 then if (mS q5.2 (mP q5.2 (mP q5.2 p1 1) (Int32.toNatClampNeg s.2.1))).1 = 6 then if (mS q5.2 (mP q5.2 (mP q5.2 (mP q5.2 p1 1) (Int32.toNatClampNeg s.2.1)) 7)).1 = 7 then (s94 q5.2 (mP q5.2 (mP q5.2 (mP q5.2 p1 1) (Int32.toNatClampNeg s.2.1)) 7)).bind fun q11 => s8L4_31 p1 q11.2 ((s.1 + q5.1) + q11.1) s.2.1 else none else none else none else none else none) else none else none else none)
set_option maxRecDepth 20000 in
theorem t8L4 (p1 : Nat) {r : Option Value × mM} (s : Int32 × Int32 × mM) (o : ((Int32 × Int32 × mM) ⊕ ((Int32 × mM) ⊕ (Int32 × mM)))) (hr : s8L4 p1 s = some o) (hC : Sum.elim (fun s' : Int32 × Int32 × mM => ∀ (w0 : Value) (hw0 : mNotL w0 = true), mGo mG (8, List.drop 4 mC8, [w0, .ref p1, .int s'.1, .int s'.2.1], [], s'.2.2) r) (Sum.elim (fun x : Int32 × mM => ∀ (w0 : Value) (hw0 : mNotL w0 = true) (w1 : Value) (hw1 : mNotL w1 = true) (w3 : Value) (hw3 : mNotL w3 = true), mGo mG (8, List.drop 33 mC8, [w0, w1, .int x.1, w3], [], x.2) r) (fun y : (Int32 × mM) => r = (some (.int y.1), y.2))) o) : ∀ (w0 : Value) (hw0 : mNotL w0 = true), mGo mG (8, List.drop 4 mC8, [w0, .ref p1, .int s.1, .int s.2.1], [], s.2.2) r := by
  intro w0 hw0
  unfold s8L4 at hr
  refine mGo.steps 2 (c' := (8, List.drop 6 mC8, [w0, .ref p1, .int s.1, .int s.2.1], [.int 10, .int s.2.1], s.2.2)) rfl ?_
  rcases mIte hr with ⟨h14, hr⟩ | ⟨h14, hr⟩
  · refine gBrT (p := 10 ≤ s.2.1) (y := 8) (is := List.drop 7 mC8) (L := [w0, .ref p1, .int s.1, .int s.2.1]) (st := []) (μ := s.2.2) (t := 58) rfl h14 ?_
    obtain rfl := Option.some.inj hr
    exact hC w0 hw0 (.ref p1) rfl (.int s.2.1) rfl
  · refine gBrF (p := 10 ≤ s.2.1) (y := 8) (is := List.drop 7 mC8) (L := [w0, .ref p1, .int s.1, .int s.2.1]) (st := []) (μ := s.2.2) (t := 58) rfl h14 ?_
    refine mGo.steps 1 (c' := (8, List.drop 8 mC8, [w0, .ref p1, .int s.1, .int s.2.1], [.ref p1], s.2.2)) rfl ?_
    obtain ⟨h1, hr⟩ := mIf hr
    refine gGet (is := List.drop 9 mC8) (v := .ref (mP s.2.2 p1 1)) h1 rfl ?_
    refine mGo.steps 1 (c' := (8, List.drop 10 mC8, [w0, .ref p1, .int s.1, .int s.2.1], [.int s.2.1, .ref (mP s.2.2 p1 1)], s.2.2)) rfl ?_
    obtain ⟨h2, hr⟩ := mIf hr
    refine gAald (is := List.drop 11 mC8) h2 ?_
    obtain ⟨h3, hr⟩ := mIf hr
    refine gGet (is := List.drop 12 mC8) (v := .int (mI s.2.2 (mP s.2.2 (mP s.2.2 p1 1) (Int32.toNatClampNeg s.2.1)) 0)) h3 rfl ?_
    rcases mIte hr with ⟨h13, hr⟩ | ⟨h13, hr⟩
    · refine gBrT (p := (mI s.2.2 (mP s.2.2 (mP s.2.2 p1 1) (Int32.toNatClampNeg s.2.1)) 0) = 0) (y := 8) (is := List.drop 13 mC8) (L := [w0, .ref p1, .int s.1, .int s.2.1]) (st := []) (μ := s.2.2) (t := 52) rfl h13 ?_
      exact t8L4_31 p1 s.2.2 s.1 s.2.1 w0 hw0 hr hC
    · refine gBrF (p := (mI s.2.2 (mP s.2.2 (mP s.2.2 p1 1) (Int32.toNatClampNeg s.2.1)) 0) = 0) (y := 8) (is := List.drop 13 mC8) (L := [w0, .ref p1, .int s.1, .int s.2.1]) (st := []) (μ := s.2.2) (t := 52) rfl h13 ?_
      refine mGo.steps 2 (c' := (8, List.drop 15 mC8, [w0, .ref p1, .int s.1, .int s.2.1], [.ref p1, .int s.1], s.2.2)) rfl ?_
      refine gGet (is := List.drop 16 mC8) (v := .ref (mP s.2.2 p1 1)) h1 rfl ?_
      refine mGo.steps 1 (c' := (8, List.drop 17 mC8, [w0, .ref p1, .int s.1, .int s.2.1], [.int s.2.1, .ref (mP s.2.2 p1 1), .int s.1], s.2.2)) rfl ?_
      refine gAald (is := List.drop 18 mC8) h2 ?_
      refine gGet (is := List.drop 19 mC8) (v := .ref (mP s.2.2 (mP s.2.2 (mP s.2.2 p1 1) (Int32.toNatClampNeg s.2.1)) 6)) h3 rfl ?_
      obtain ⟨h4, hr⟩ := mIf hr
      obtain ⟨q5, h6, hr⟩ := mBi hr
      refine gCall (z := 94) (n := 0) (f := 0) (kind := 1) (a := (mP s.2.2 (mP s.2.2 (mP s.2.2 p1 1) (Int32.toNatClampNeg s.2.1)) 6)) (As := []) (y := 8) (is := List.drop 20 mC8) (L := [w0, .ref p1, .int s.1, .int s.2.1]) (rest := [.int s.1]) (μ := s.2.2) rfl (by decide) (by decide) ⟨rfl, rfl⟩ rfl h4 (Nat.le_of_ble_eq_true rfl) (Nat.le_of_ble_eq_true rfl) (t94 h6) ?_
      refine mGo.steps 4 (c' := (8, List.drop 24 mC8, [w0, .ref p1, .int (s.1 + q5.1), .int s.2.1], [.ref p1, .int (s.1 + q5.1)], q5.2)) rfl ?_
      obtain ⟨h7, hr⟩ := mIf hr
      refine gGet (is := List.drop 25 mC8) (v := .ref (mP q5.2 p1 1)) h7 rfl ?_
      refine mGo.steps 1 (c' := (8, List.drop 26 mC8, [w0, .ref p1, .int (s.1 + q5.1), .int s.2.1], [.int s.2.1, .ref (mP q5.2 p1 1), .int (s.1 + q5.1)], q5.2)) rfl ?_
      obtain ⟨h8, hr⟩ := mIf hr
      refine gAald (is := List.drop 27 mC8) h8 ?_
      obtain ⟨h9, hr⟩ := mIf hr
      refine gGet (is := List.drop 28 mC8) (v := .ref (mP q5.2 (mP q5.2 (mP q5.2 p1 1) (Int32.toNatClampNeg s.2.1)) 7)) h9 rfl ?_
      obtain ⟨h10, hr⟩ := mIf hr
      obtain ⟨q11, h12, hr⟩ := mBi hr
      refine gCall (z := 94) (n := 0) (f := 0) (kind := 1) (a := (mP q5.2 (mP q5.2 (mP q5.2 p1 1) (Int32.toNatClampNeg s.2.1)) 7)) (As := []) (y := 8) (is := List.drop 29 mC8) (L := [w0, .ref p1, .int (s.1 + q5.1), .int s.2.1]) (rest := [.int (s.1 + q5.1)]) (μ := q5.2) rfl (by decide) (by decide) ⟨rfl, rfl⟩ rfl h10 (Nat.le_of_ble_eq_true rfl) (Nat.le_of_ble_eq_true rfl) (t94 h12) ?_
      refine mGo.steps 2 (c' := (8, List.drop 31 mC8, [w0, .ref p1, .int ((s.1 + q5.1) + q11.1), .int s.2.1], [], q11.2)) rfl ?_
      exact t8L4_31 p1 q11.2 ((s.1 + q5.1) + q11.1) s.2.1 w0 hw0 hr hC
theorem t8L4l (p1 : Nat) {r : Option Value × mM} (n : Nat) (s : Int32 × Int32 × mM) (o : (Int32 × mM) ⊕ (Int32 × mM)) (hr : mLoop (s8L4 p1) n s = some o) (hC : Sum.elim (fun x : Int32 × mM => ∀ (w0 : Value) (hw0 : mNotL w0 = true) (w1 : Value) (hw1 : mNotL w1 = true) (w3 : Value) (hw3 : mNotL w3 = true), mGo mG (8, List.drop 33 mC8, [w0, w1, .int x.1, w3], [], x.2) r) (fun y : (Int32 × mM) => r = (some (.int y.1), y.2)) o) : ∀ (w0 : Value) (hw0 : mNotL w0 = true), mGo mG (8, List.drop 4 mC8, [w0, .ref p1, .int s.1, .int s.2.1], [], s.2.2) r :=
  mLoop_go (Hd := (fun s' : Int32 × Int32 × mM => ∀ (w0 : Value) (hw0 : mNotL w0 = true), mGo mG (8, List.drop 4 mC8, [w0, .ref p1, .int s'.1, .int s'.2.1], [], s'.2.2) r)) (fun s o hb hC => t8L4 p1 s o hb hC) n s o hr hC
def s8 (μ : mM) (a0 : Nat) (a1 : Nat) : Option (Int32 × mM) :=
  (mLoop (s8L4 a1) 1000 (0, 0, μ)).bind fun o15 => Sum.elim (fun x16 => some (x16.1, x16.2)) (fun y17 => some y17) o15
set_option maxRecDepth 20000 in
theorem t8 {μ : mM} {a0 : Nat} {a1 : Nat} {o : (Int32 × mM)} (hr : s8 μ a0 a1 = some o) : mEv mG 8 [.ref a0, .ref a1] μ (some (.int o.1)) (o.2) := by
  obtain ⟨r, hC⟩ : ∃ r : Option Value × mM, r = (some (.int o.1), o.2) := ⟨_, rfl⟩
  show mGo mG (8, List.drop 0 mC8, [.ref a0, .ref a1, .retAddr 0, .retAddr 0], [], μ) (some (.int o.1), o.2)
  rw [← hC]
  unfold s8 at hr
  refine mGo.steps 4 (c' := (8, List.drop 4 mC8, [.ref a0, .ref a1, .int 0, .int 0], [], μ)) rfl ?_
  obtain ⟨o15, h18, hr⟩ := mBi hr
  refine t8L4l a1 1000 (0, 0, μ) o15 h18 ?_ (.ref a0) rfl
  cases o15 with
  | inl x16 =>
    show ∀ (w0 : Value) (hw0 : mNotL w0 = true) (w1 : Value) (hw1 : mNotL w1 = true) (w3 : Value) (hw3 : mNotL w3 = true), mGo mG (8, List.drop 33 mC8, [w0, w1, .int x16.1, w3], [], x16.2) r
    intro w0 hw0 w1 hw1 w3 hw3
    replace hr : (_) = some _ := hr
    refine mGo.steps 1 (c' := (8, List.drop 34 mC8, [w0, w1, .int x16.1, w3], [.int x16.1], x16.2)) rfl ?_
    obtain rfl := Option.some.inj hr
    rw [show r = _ from hC]
    exact gIret rfl
  | inr y17 =>
    obtain rfl := Option.some.inj hr
    exact hC

/-! 9: TunnelFabric$Clock.updateLoads(LTunnelFabric$Link;)V -/
def s9L2_21 (p1 : Nat) (μ : mM) (v2 : Int32) (t0 : UInt32) : Option ((Int32 × mM) ⊕ ((mM) ⊕ mM)) :=
  if (mS μ p1).1 = 2 then if (mS μ (mP μ p1 8)).1 = 11 ∧ mInb v2 (mS μ (mP μ p1 8)).2 then if FP.fmul (mF μ (mP μ p1 8) (Int32.toNatClampNeg v2)) (UInt32.ofNat 1063256064) &&& 0x7fffffff ≤ 0x7f800000 then if FP.fmul t0 (UInt32.ofNat 1040187392) &&& 0x7fffffff ≤ 0x7f800000 then if FP.fadd (FP.fmul (mF μ (mP μ p1 8) (Int32.toNatClampNeg v2)) (UInt32.ofNat 1063256064)) (FP.fmul t0 (UInt32.ofNat 1040187392)) &&& 0x7fffffff ≤ 0x7f800000 then (some (mUF μ (mP μ p1 8) (Int32.toNatClampNeg v2) (FP.fadd (FP.fmul (mF μ (mP μ p1 8) (Int32.toNatClampNeg v2)) (UInt32.ofNat 1063256064)) (FP.fmul t0 (UInt32.ofNat 1040187392))))).bind fun μ11 => some (.inl (v2 + 1, μ11)) else none else none else none else none else none
set_option maxRecDepth 20000 in
theorem t9L2_21 (p1 : Nat) (μ : mM) (v2 : Int32) (t0 : UInt32) (w0 : Value) (hw0 : mNotL w0 = true) (w3 : Value) (hw3 : mNotL w3 = true) (w4 : Value) (hw4 : mNotL w4 = true) {o : ((Int32 × mM) ⊕ ((mM) ⊕ mM))} {r : Option Value × mM} (hr : s9L2_21 p1 μ v2 t0 = some o) (hC : Sum.elim (fun s' : Int32 × mM => ∀ (w0 : Value) (hw0 : mNotL w0 = true) (w3 : Value) (hw3 : mNotL w3 = true) (w4 : Value) (hw4 : mNotL w4 = true), mGo mG (9, List.drop 2 mC9, [w0, .ref p1, .int s'.1, w3, w4], [], s'.2) r) (Sum.elim (fun x : mM => ∀ (w0 : Value) (hw0 : mNotL w0 = true) (w1 : Value) (hw1 : mNotL w1 = true) (w2 : Value) (hw2 : mNotL w2 = true) (w3 : Value) (hw3 : mNotL w3 = true) (w4 : Value) (hw4 : mNotL w4 = true), mGo mG (9, List.drop 38 mC9, [w0, w1, w2, w3, w4], [], x) r) (fun y : mM => r = (none, y))) o) : mGo mG (9, List.drop 21 mC9, [w0, .ref p1, .int v2, w3, w4], [.float t0], μ) r := by
  unfold s9L2_21 at hr
  refine gSt1 (L := [w0, .ref p1, .int v2, w3, w4]) (q := 4) (w := .float t0) (is := List.drop 22 mC9) (st := []) (μ := μ) rfl (Nat.le_of_ble_eq_true rfl) hw3 ?_
  refine mGo.steps 1 (c' := (9, List.drop 23 mC9, [w0, .ref p1, .int v2, w3, .float t0], [.ref p1], μ)) rfl ?_
  obtain ⟨h6, hr⟩ := mIf hr
  refine gGet (is := List.drop 24 mC9) (v := .ref (mP μ p1 8)) h6 rfl ?_
  refine mGo.steps 2 (c' := (9, List.drop 26 mC9, [w0, .ref p1, .int v2, w3, .float t0], [.ref p1, .int v2, .ref (mP μ p1 8)], μ)) rfl ?_
  refine gGet (is := List.drop 27 mC9) (v := .ref (mP μ p1 8)) h6 rfl ?_
  refine mGo.steps 1 (c' := (9, List.drop 28 mC9, [w0, .ref p1, .int v2, w3, .float t0], [.int v2, .ref (mP μ p1 8), .int v2, .ref (mP μ p1 8)], μ)) rfl ?_
  obtain ⟨h7, hr⟩ := mIf hr
  refine gFald (is := List.drop 29 mC9) h7 ?_
  refine mGo.steps 1 (c' := (9, List.drop 30 mC9, [w0, .ref p1, .int v2, w3, .float t0], [.float (UInt32.ofNat 1063256064), .float (mF μ (mP μ p1 8) (Int32.toNatClampNeg v2)), .int v2, .ref (mP μ p1 8)], μ)) rfl ?_
  obtain ⟨h8, hr⟩ := mIf hr
  refine gFmul (is := List.drop 31 mC9) h8 ?_
  refine mGo.steps 2 (c' := (9, List.drop 33 mC9, [w0, .ref p1, .int v2, w3, .float t0], [.float (UInt32.ofNat 1040187392), .float t0, .float (FP.fmul (mF μ (mP μ p1 8) (Int32.toNatClampNeg v2)) (UInt32.ofNat 1063256064)), .int v2, .ref (mP μ p1 8)], μ)) rfl ?_
  obtain ⟨h9, hr⟩ := mIf hr
  refine gFmul (is := List.drop 34 mC9) h9 ?_
  obtain ⟨h10, hr⟩ := mIf hr
  refine gFadd (is := List.drop 35 mC9) h10 ?_
  replace hr := mBs hr
  refine gFast (is := List.drop 36 mC9) h7 ?_
  let μ11 : mM := mUF μ (mP μ p1 8) (Int32.toNatClampNeg v2) (FP.fadd (FP.fmul (mF μ (mP μ p1 8) (Int32.toNatClampNeg v2)) (UInt32.ofNat 1063256064)) (FP.fmul t0 (UInt32.ofNat 1040187392)))
  refine mGo.steps 2 (c' := (9, List.drop 2 mC9, [w0, .ref p1, .int (v2 + 1), w3, .float t0], [], μ11)) rfl ?_
  obtain rfl := Option.some.inj hr
  exact hC w0 hw0 w3 hw3 (.float t0) rfl
def s9L2 (p1 : Nat) (s : Int32 × mM) : Option ((Int32 × mM) ⊕ ((mM) ⊕ mM)) :=
  if 2 ≤ s.1 then (some (.inr (.inl s.2))) else (if (mS s.2 p1).1 = 2 then (s53 s.2 p1 s.1).bind fun q2 => if 0 < q2 then (if (mS s.2 (mP s.2 p1 7)).1 = 10 ∧ mInb s.1 (mS s.2 (mP s.2 p1 7)).2 then if FP.fdiv (FP.i2f (mI s.2 (mP s.2 p1 7) (Int32.toNatClampNeg s.1))) (FP.i2f q2) &&& 0x7fffffff ≤ 0x7f800000 then s9L2_21 p1 s.2 s.1 (FP.fdiv (FP.i2f (mI s.2 (mP s.2 p1 7) (Int32.toNatClampNeg s.1))) (FP.i2f q2)) else none else none) else (s9L2_21 p1 s.2 s.1 FP.fconst0) else none)
set_option maxRecDepth 20000 in
theorem t9L2 (p1 : Nat) {r : Option Value × mM} (s : Int32 × mM) (o : ((Int32 × mM) ⊕ ((mM) ⊕ mM))) (hr : s9L2 p1 s = some o) (hC : Sum.elim (fun s' : Int32 × mM => ∀ (w0 : Value) (hw0 : mNotL w0 = true) (w3 : Value) (hw3 : mNotL w3 = true) (w4 : Value) (hw4 : mNotL w4 = true), mGo mG (9, List.drop 2 mC9, [w0, .ref p1, .int s'.1, w3, w4], [], s'.2) r) (Sum.elim (fun x : mM => ∀ (w0 : Value) (hw0 : mNotL w0 = true) (w1 : Value) (hw1 : mNotL w1 = true) (w2 : Value) (hw2 : mNotL w2 = true) (w3 : Value) (hw3 : mNotL w3 = true) (w4 : Value) (hw4 : mNotL w4 = true), mGo mG (9, List.drop 38 mC9, [w0, w1, w2, w3, w4], [], x) r) (fun y : mM => r = (none, y))) o) : ∀ (w0 : Value) (hw0 : mNotL w0 = true) (w3 : Value) (hw3 : mNotL w3 = true) (w4 : Value) (hw4 : mNotL w4 = true), mGo mG (9, List.drop 2 mC9, [w0, .ref p1, .int s.1, w3, w4], [], s.2) r := by
  intro w0 hw0 w3 hw3 w4 hw4
  unfold s9L2 at hr
  refine mGo.steps 2 (c' := (9, List.drop 4 mC9, [w0, .ref p1, .int s.1, w3, w4], [.int 2, .int s.1], s.2)) rfl ?_
  rcases mIte hr with ⟨h13, hr⟩ | ⟨h13, hr⟩
  · refine gBrT (p := 2 ≤ s.1) (y := 9) (is := List.drop 5 mC9) (L := [w0, .ref p1, .int s.1, w3, w4]) (st := []) (μ := s.2) (t := 60) rfl h13 ?_
    obtain rfl := Option.some.inj hr
    exact hC w0 hw0 (.ref p1) rfl (.int s.1) rfl w3 hw3 w4 hw4
  · refine gBrF (p := 2 ≤ s.1) (y := 9) (is := List.drop 5 mC9) (L := [w0, .ref p1, .int s.1, w3, w4]) (st := []) (μ := s.2) (t := 60) rfl h13 ?_
    refine mGo.steps 2 (c' := (9, List.drop 7 mC9, [w0, .ref p1, .int s.1, w3, w4], [.int s.1, .ref p1], s.2)) rfl ?_
    obtain ⟨h1, hr⟩ := mIf hr
    obtain ⟨q2, h3, hr⟩ := mBi hr
    refine gCall (z := 53) (n := 1) (f := 0) (kind := 1) (a := p1) (As := [.int s.1]) (y := 9) (is := List.drop 8 mC9) (L := [w0, .ref p1, .int s.1, w3, w4]) (rest := []) (μ := s.2) rfl (by decide) (by decide) ⟨rfl, rfl⟩ rfl h1 (Nat.le_of_ble_eq_true rfl) (Nat.le_of_ble_eq_true rfl) (t53 h3) ?_
    refine mGo.steps 2 (c' := (9, List.drop 10 mC9, [w0, .ref p1, .int s.1, .int q2, w4], [.int q2], s.2)) rfl ?_
    rcases mIte hr with ⟨h12, hr⟩ | ⟨h12, hr⟩
    · refine gBrT (p := 0 < q2) (y := 9) (is := List.drop 11 mC9) (L := [w0, .ref p1, .int s.1, .int q2, w4]) (st := []) (μ := s.2) (t := 21) rfl h12 ?_
      refine mGo.steps 1 (c' := (9, List.drop 14 mC9, [w0, .ref p1, .int s.1, .int q2, w4], [.ref p1], s.2)) rfl ?_
      refine gGet (is := List.drop 15 mC9) (v := .ref (mP s.2 p1 7)) h1 rfl ?_
      refine mGo.steps 1 (c' := (9, List.drop 16 mC9, [w0, .ref p1, .int s.1, .int q2, w4], [.int s.1, .ref (mP s.2 p1 7)], s.2)) rfl ?_
      obtain ⟨h4, hr⟩ := mIf hr
      refine gIald (is := List.drop 17 mC9) h4 ?_
      refine mGo.steps 3 (c' := (9, List.drop 20 mC9, [w0, .ref p1, .int s.1, .int q2, w4], [.float (FP.i2f q2), .float (FP.i2f (mI s.2 (mP s.2 p1 7) (Int32.toNatClampNeg s.1)))], s.2)) rfl ?_
      obtain ⟨h5, hr⟩ := mIf hr
      refine gFdiv (is := List.drop 21 mC9) h5 ?_
      exact t9L2_21 p1 s.2 s.1 (FP.fdiv (FP.i2f (mI s.2 (mP s.2 p1 7) (Int32.toNatClampNeg s.1))) (FP.i2f q2)) w0 hw0 (.int q2) rfl w4 hw4 hr hC
    · refine gBrF (p := 0 < q2) (y := 9) (is := List.drop 11 mC9) (L := [w0, .ref p1, .int s.1, .int q2, w4]) (st := []) (μ := s.2) (t := 21) rfl h12 ?_
      refine mGo.steps 2 (c' := (9, List.drop 21 mC9, [w0, .ref p1, .int s.1, .int q2, w4], [.float FP.fconst0], s.2)) rfl ?_
      exact t9L2_21 p1 s.2 s.1 FP.fconst0 w0 hw0 (.int q2) rfl w4 hw4 hr hC
theorem t9L2l (p1 : Nat) {r : Option Value × mM} (n : Nat) (s : Int32 × mM) (o : (mM) ⊕ mM) (hr : mLoop (s9L2 p1) n s = some o) (hC : Sum.elim (fun x : mM => ∀ (w0 : Value) (hw0 : mNotL w0 = true) (w1 : Value) (hw1 : mNotL w1 = true) (w2 : Value) (hw2 : mNotL w2 = true) (w3 : Value) (hw3 : mNotL w3 = true) (w4 : Value) (hw4 : mNotL w4 = true), mGo mG (9, List.drop 38 mC9, [w0, w1, w2, w3, w4], [], x) r) (fun y : mM => r = (none, y)) o) : ∀ (w0 : Value) (hw0 : mNotL w0 = true) (w3 : Value) (hw3 : mNotL w3 = true) (w4 : Value) (hw4 : mNotL w4 = true), mGo mG (9, List.drop 2 mC9, [w0, .ref p1, .int s.1, w3, w4], [], s.2) r :=
  mLoop_go (Hd := (fun s' : Int32 × mM => ∀ (w0 : Value) (hw0 : mNotL w0 = true) (w3 : Value) (hw3 : mNotL w3 = true) (w4 : Value) (hw4 : mNotL w4 = true), mGo mG (9, List.drop 2 mC9, [w0, .ref p1, .int s'.1, w3, w4], [], s'.2) r)) (fun s o hb hC => t9L2 p1 s o hb hC) n s o hr hC
def s9 (μ : mM) (a0 : Nat) (a1 : Nat) : Option mM :=
  (mLoop (s9L2 a1) 1000 (0, μ)).bind fun o14 => Sum.elim (fun x15 => some x15) (fun y16 => some y16) o14
set_option maxRecDepth 20000 in
theorem t9 {μ : mM} {a0 : Nat} {a1 : Nat} {o : mM} (hr : s9 μ a0 a1 = some o) : mEv mG 9 [.ref a0, .ref a1] μ (none) (o) := by
  obtain ⟨r, hC⟩ : ∃ r : Option Value × mM, r = (none, o) := ⟨_, rfl⟩
  show mGo mG (9, List.drop 0 mC9, [.ref a0, .ref a1, .retAddr 0, .retAddr 0, .retAddr 0], [], μ) (none, o)
  rw [← hC]
  unfold s9 at hr
  refine mGo.steps 2 (c' := (9, List.drop 2 mC9, [.ref a0, .ref a1, .int 0, .retAddr 0, .retAddr 0], [], μ)) rfl ?_
  obtain ⟨o14, h17, hr⟩ := mBi hr
  refine t9L2l a1 1000 (0, μ) o14 h17 ?_ (.ref a0) rfl (.retAddr 0) rfl (.retAddr 0) rfl
  cases o14 with
  | inl x15 =>
    show ∀ (w0 : Value) (hw0 : mNotL w0 = true) (w1 : Value) (hw1 : mNotL w1 = true) (w2 : Value) (hw2 : mNotL w2 = true) (w3 : Value) (hw3 : mNotL w3 = true) (w4 : Value) (hw4 : mNotL w4 = true), mGo mG (9, List.drop 38 mC9, [w0, w1, w2, w3, w4], [], x15) r
    intro w0 hw0 w1 hw1 w2 hw2 w3 hw3 w4 hw4
    replace hr : (_) = some _ := hr
    obtain rfl := Option.some.inj hr
    rw [show r = _ from hC]
    exact gVret rfl
  | inr y16 =>
    obtain rfl := Option.some.inj hr
    exact hC

/-! 79: TunnelFabric$Tunnel.passes(I)Z -/
def s79_12 (μ : mM) (a0 : Nat) (a1 : Int32) (t0 : Int32) : Option Int32 :=
  if t0 = 0 ∨ t0 = 1 then some t0 else none
set_option maxRecDepth 20000 in
theorem t79_12 (μ : mM) (a0 : Nat) (a1 : Int32) (t0 : Int32) (w0 : Value) (hw0 : mNotL w0 = true) (w1 : Value) (hw1 : mNotL w1 = true) {o : Int32} {r : Option Value × mM} (hr : s79_12 μ a0 a1 t0 = some o) (hC : r = (some (.int o), μ)) : mGo mG (79, List.drop 12 mC79, [w0, w1], [.int t0], μ) r := by
  unfold s79_12 at hr
  obtain ⟨h2, hr⟩ := mIf hr
  obtain rfl := Option.some.inj hr
  rw [show r = _ from hC]
  exact gZret rfl h2
def s79_11 (μ : mM) (a0 : Nat) (a1 : Int32) : Option Int32 :=
  s79_12 μ a0 a1 0
set_option maxRecDepth 20000 in
theorem t79_11 (μ : mM) (a0 : Nat) (a1 : Int32) (w0 : Value) (hw0 : mNotL w0 = true) (w1 : Value) (hw1 : mNotL w1 = true) {o : Int32} {r : Option Value × mM} (hr : s79_11 μ a0 a1 = some o) (hC : r = (some (.int o), μ)) : mGo mG (79, List.drop 11 mC79, [w0, w1], [], μ) r := by
  unfold s79_11 at hr
  refine mGo.steps 1 (c' := (79, List.drop 12 mC79, [w0, w1], [.int 0], μ)) rfl ?_
  exact t79_12 μ a0 a1 0 w0 hw0 w1 hw1 hr hC
def s79 (μ : mM) (a0 : Nat) (a1 : Int32) : Option Int32 :=
  if (mS μ a0).1 = 6 then if (mI μ a0 0) = 0 then (s79_11 μ a0 a1) else (if (mS μ (mP μ a0 6)).1 = 7 then (s90 μ (mP μ a0 6) a1).bind fun q4 => if q4 = (-1) then (s79_11 μ a0 a1) else (s79_12 μ a0 a1 1) else none) else none
set_option maxRecDepth 20000 in
theorem t79 {μ : mM} {a0 : Nat} {a1 : Int32} {o : Int32} (hr : s79 μ a0 a1 = some o) : mEv mG 79 [.ref a0, .int a1] μ (some (.int o)) (μ) := by
  obtain ⟨r, hC⟩ : ∃ r : Option Value × mM, r = (some (.int o), μ) := ⟨_, rfl⟩
  show mGo mG (79, List.drop 0 mC79, [.ref a0, .int a1], [], μ) (some (.int o), μ)
  rw [← hC]
  unfold s79 at hr
  refine mGo.steps 1 (c' := (79, List.drop 1 mC79, [.ref a0, .int a1], [.ref a0], μ)) rfl ?_
  obtain ⟨h1, hr⟩ := mIf hr
  refine gGet (is := List.drop 2 mC79) (v := .int (mI μ a0 0)) h1 rfl ?_
  rcases mIte hr with ⟨h7, hr⟩ | ⟨h7, hr⟩
  · refine gBrT (p := (mI μ a0 0) = 0) (y := 79) (is := List.drop 3 mC79) (L := [.ref a0, .int a1]) (st := []) (μ := μ) (t := 23) rfl h7 ?_
    exact t79_11 μ a0 a1 (.ref a0) rfl (.int a1) rfl hr hC
  · refine gBrF (p := (mI μ a0 0) = 0) (y := 79) (is := List.drop 3 mC79) (L := [.ref a0, .int a1]) (st := []) (μ := μ) (t := 23) rfl h7 ?_
    refine mGo.steps 1 (c' := (79, List.drop 4 mC79, [.ref a0, .int a1], [.ref a0], μ)) rfl ?_
    refine gGet (is := List.drop 5 mC79) (v := .ref (mP μ a0 6)) h1 rfl ?_
    refine mGo.steps 1 (c' := (79, List.drop 6 mC79, [.ref a0, .int a1], [.int a1, .ref (mP μ a0 6)], μ)) rfl ?_
    obtain ⟨h3, hr⟩ := mIf hr
    obtain ⟨q4, h5, hr⟩ := mBi hr
    refine gCall (z := 90) (n := 1) (f := 0) (kind := 1) (a := (mP μ a0 6)) (As := [.int a1]) (y := 79) (is := List.drop 7 mC79) (L := [.ref a0, .int a1]) (rest := []) (μ := μ) rfl (by decide) (by decide) ⟨rfl, rfl⟩ rfl h3 (Nat.le_of_ble_eq_true rfl) (Nat.le_of_ble_eq_true rfl) (t90 h5) ?_
    refine mGo.steps 1 (c' := (79, List.drop 8 mC79, [.ref a0, .int a1], [.int (-1), .int q4], μ)) rfl ?_
    rcases mIte hr with ⟨h6, hr⟩ | ⟨h6, hr⟩
    · refine gBrT (p := q4 = (-1)) (y := 79) (is := List.drop 9 mC79) (L := [.ref a0, .int a1]) (st := []) (μ := μ) (t := 23) rfl h6 ?_
      exact t79_11 μ a0 a1 (.ref a0) rfl (.int a1) rfl hr hC
    · refine gBrF (p := q4 = (-1)) (y := 79) (is := List.drop 9 mC79) (L := [.ref a0, .int a1]) (st := []) (μ := μ) (t := 23) rfl h6 ?_
      refine mGo.steps 2 (c' := (79, List.drop 12 mC79, [.ref a0, .int a1], [.int 1], μ)) rfl ?_
      exact t79_12 μ a0 a1 1 (.ref a0) rfl (.int a1) rfl hr hC
