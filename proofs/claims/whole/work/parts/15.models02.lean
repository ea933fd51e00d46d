/-! 24: TunnelFabric$Fabric.leastFreePort(I)I -/
def s24_11 (μ : mM) (a0 : Nat) (a1 : Int32) : Option Int32 :=
  some (-1)
set_option maxRecDepth 20000 in
theorem t24_11 (μ : mM) (a0 : Nat) (a1 : Int32) (w0 : Value) (hw0 : mNotL w0 = true) (w1 : Value) (hw1 : mNotL w1 = true) (w2 : Value) (hw2 : mNotL w2 = true) (w3 : Value) (hw3 : mNotL w3 = true) {o : Int32} {r : Option Value × mM} (hr : s24_11 μ a0 a1 = some o) (hC : r = (some (.int o), μ)) : mGo mG (24, List.drop 11 mC24, [w0, w1, w2, w3], [], μ) r := by
  unfold s24_11 at hr
  refine mGo.steps 1 (c' := (24, List.drop 12 mC24, [w0, w1, w2, w3], [.int (-1)], μ)) rfl ?_
  obtain rfl := Option.some.inj hr
  rw [show r = _ from hC]
  exact gIret rfl
def s24L22 (μ : mM) (p0 : Nat) (p1 : Int32) (p2 : Int32) (s : Int32) : Option ((Int32) ⊕ ((Unit) ⊕ Int32)) :=
  if p2 ≤ s then (some (.inr (.inl ()))) else (if (mS μ p0).1 = 1 then (s23 μ p0 p1 s).bind fun q9 => if ¬ q9 = (-1) then (some (.inl (s + 1))) else (some (.inr (.inr s))) else none)
set_option maxRecDepth 20000 in
theorem t24L22 (μ : mM) (p0 : Nat) (p1 : Int32) (p2 : Int32) {r : Option Value × mM} (s : Int32) (o : ((Int32) ⊕ ((Unit) ⊕ Int32))) (hr : s24L22 μ p0 p1 p2 s = some o) (hC : Sum.elim (fun s' : Int32 => mGo mG (24, List.drop 22 mC24, [.ref p0, .int p1, .int p2, .int s'], [], μ) r) (Sum.elim (fun x : Unit => ∀ (w0 : Value) (hw0 : mNotL w0 = true) (w1 : Value) (hw1 : mNotL w1 = true) (w2 : Value) (hw2 : mNotL w2 = true) (w3 : Value) (hw3 : mNotL w3 = true), mGo mG (24, List.drop 35 mC24, [w0, w1, w2, w3], [], μ) r) (fun y : Int32 => r = (some (.int y), μ))) o) : mGo mG (24, List.drop 22 mC24, [.ref p0, .int p1, .int p2, .int s], [], μ) r := by
  unfold s24L22 at hr
  refine mGo.steps 2 (c' := (24, List.drop 24 mC24, [.ref p0, .int p1, .int p2, .int s], [.int p2, .int s], μ)) rfl ?_
  rcases mIte hr with ⟨h12, hr⟩ | ⟨h12, hr⟩
  · refine gBrT (p := p2 ≤ s) (y := 24) (is := List.drop 25 mC24) (L := [.ref p0, .int p1, .int p2, .int s]) (st := []) (μ := μ) (t := 61) rfl h12 ?_
    obtain rfl := Option.some.inj hr
    exact hC (.ref p0) rfl (.int p1) rfl (.int p2) rfl (.int s) rfl
  · refine gBrF (p := p2 ≤ s) (y := 24) (is := List.drop 25 mC24) (L := [.ref p0, .int p1, .int p2, .int s]) (st := []) (μ := μ) (t := 61) rfl h12 ?_
    refine mGo.steps 3 (c' := (24, List.drop 28 mC24, [.ref p0, .int p1, .int p2, .int s], [.int s, .int p1, .ref p0], μ)) rfl ?_
    obtain ⟨h8, hr⟩ := mIf hr
    obtain ⟨q9, h10, hr⟩ := mBi hr
    refine gCall (z := 23) (n := 2) (f := 0) (kind := 1) (a := p0) (As := [.int p1, .int s]) (y := 24) (is := List.drop 29 mC24) (L := [.ref p0, .int p1, .int p2, .int s]) (rest := []) (μ := μ) rfl (by decide) (by decide) ⟨rfl, rfl⟩ rfl h8 (Nat.le_of_ble_eq_true rfl) (Nat.le_of_ble_eq_true rfl) (t23 h10) ?_
    refine mGo.steps 1 (c' := (24, List.drop 30 mC24, [.ref p0, .int p1, .int p2, .int s], [.int (-1), .int q9], μ)) rfl ?_
    rcases mIte hr with ⟨h11, hr⟩ | ⟨h11, hr⟩
    · refine gBrT (p := ¬ q9 = (-1)) (y := 24) (is := List.drop 31 mC24) (L := [.ref p0, .int p1, .int p2, .int s]) (st := []) (μ := μ) (t := 55) rfl h11 ?_
      refine mGo.steps 2 (c' := (24, List.drop 22 mC24, [.ref p0, .int p1, .int p2, .int (s + 1)], [], μ)) rfl ?_
      obtain rfl := Option.some.inj hr
      exact hC
    · refine gBrF (p := ¬ q9 = (-1)) (y := 24) (is := List.drop 31 mC24) (L := [.ref p0, .int p1, .int p2, .int s]) (st := []) (μ := μ) (t := 55) rfl h11 ?_
      refine mGo.steps 1 (c' := (24, List.drop 32 mC24, [.ref p0, .int p1, .int p2, .int s], [.int s], μ)) rfl ?_
      obtain rfl := Option.some.inj hr
      rw [show r = _ from hC]
      exact gIret rfl
theorem t24L22l (μ : mM) (p0 : Nat) (p1 : Int32) (p2 : Int32) {r : Option Value × mM} (n : Nat) (s : Int32) (o : (Unit) ⊕ Int32) (hr : mLoop (s24L22 μ p0 p1 p2) n s = some o) (hC : Sum.elim (fun x : Unit => ∀ (w0 : Value) (hw0 : mNotL w0 = true) (w1 : Value) (hw1 : mNotL w1 = true) (w2 : Value) (hw2 : mNotL w2 = true) (w3 : Value) (hw3 : mNotL w3 = true), mGo mG (24, List.drop 35 mC24, [w0, w1, w2, w3], [], μ) r) (fun y : Int32 => r = (some (.int y), μ)) o) : mGo mG (24, List.drop 22 mC24, [.ref p0, .int p1, .int p2, .int s], [], μ) r :=
  mLoop_go (Hd := (fun s' : Int32 => mGo mG (24, List.drop 22 mC24, [.ref p0, .int p1, .int p2, .int s'], [], μ) r)) (fun s o hb hC => t24L22 μ p0 p1 p2 s o hb hC) n s o hr hC
def s24 (μ : mM) (a0 : Nat) (a1 : Int32) : Option Int32 :=
  if (mS μ a0).1 = 1 then (s14 μ a0 a1).bind fun q2 => if q2 = 0 then (s24_11 μ a0 a1) else (if (mS μ (mP μ a0 0)).1 = 20 + 4 ∧ mInb a1 (mS μ (mP μ a0 0)).2 then if (mS μ (mP μ (mP μ a0 0) (Int32.toNatClampNeg a1))).1 = 4 then if (mI μ (mP μ (mP μ a0 0) (Int32.toNatClampNeg a1)) 5) < 4 then ((s133 μ (mI μ (mP μ (mP μ a0 0) (Int32.toNatClampNeg a1)) 1)).bind fun q6 => (mLoop (s24L22 μ a0 a1 q6) 1000 0).bind fun o13 => Sum.elim (fun x14 => some (-1)) (fun y15 => some y15) o13) else (s24_11 μ a0 a1) else none else none) else none
set_option maxRecDepth 20000 in
theorem t24 {μ : mM} {a0 : Nat} {a1 : Int32} {o : Int32} (hr : s24 μ a0 a1 = some o) : mEv mG 24 [.ref a0, .int a1] μ (some (.int o)) (μ) := by
  obtain ⟨r, hC⟩ : ∃ r : Option Value × mM, r = (some (.int o), μ) := ⟨_, rfl⟩
  show mGo mG (24, List.drop 0 mC24, [.ref a0, .int a1, .retAddr 0, .retAddr 0], [], μ) (some (.int o), μ)
  rw [← hC]
  unfold s24 at hr
  refine mGo.steps 2 (c' := (24, List.drop 2 mC24, [.ref a0, .int a1, .retAddr 0, .retAddr 0], [.int a1, .ref a0], μ)) rfl ?_
  obtain ⟨h1, hr⟩ := mIf hr
  obtain ⟨q2, h3, hr⟩ := mBi hr
  refine gCall (z := 14) (n := 1) (f := 0) (kind := 1) (a := a0) (As := [.int a1]) (y := 24) (is := List.drop 3 mC24) (L := [.ref a0, .int a1, .retAddr 0, .retAddr 0]) (rest := []) (μ := μ) rfl (by decide) (by decide) ⟨rfl, rfl⟩ rfl h1 (Nat.le_of_ble_eq_true rfl) (Nat.le_of_ble_eq_true rfl) (t14 h3) ?_
  rcases mIte hr with ⟨h18, hr⟩ | ⟨h18, hr⟩
  · refine gBrT (p := q2 = 0) (y := 24) (is := List.drop 4 mC24) (L := [.ref a0, .int a1, .retAddr 0, .retAddr 0]) (st := []) (μ := μ) (t := 21) rfl h18 ?_
    exact t24_11 μ a0 a1 (.ref a0) rfl (.int a1) rfl (.retAddr 0) rfl (.retAddr 0) rfl hr hC
  · refine gBrF (p := q2 = 0) (y := 24) (is := List.drop 4 mC24) (L := [.ref a0, .int a1, .retAddr 0, .retAddr 0]) (st := []) (μ := μ) (t := 21) rfl h18 ?_
    refine mGo.steps 1 (c' := (24, List.drop 5 mC24, [.ref a0, .int a1, .retAddr 0, .retAddr 0], [.ref a0], μ)) rfl ?_
    refine gGet (is := List.drop 6 mC24) (v := .ref (mP μ a0 0)) h1 rfl ?_
    refine mGo.steps 1 (c' := (24, List.drop 7 mC24, [.ref a0, .int a1, .retAddr 0, .retAddr 0], [.int a1, .ref (mP μ a0 0)], μ)) rfl ?_
    obtain ⟨h4, hr⟩ := mIf hr
    refine gAald (is := List.drop 8 mC24) h4 ?_
    obtain ⟨h5, hr⟩ := mIf hr
    refine gGet (is := List.drop 9 mC24) (v := .int (mI μ (mP μ (mP μ a0 0) (Int32.toNatClampNeg a1)) 5)) h5 rfl ?_
    refine mGo.steps 1 (c' := (24, List.drop 10 mC24, [.ref a0, .int a1, .retAddr 0, .retAddr 0], [.int 4, .int (mI μ (mP μ (mP μ a0 0) (Int32.toNatClampNeg a1)) 5)], μ)) rfl ?_
    rcases mIte hr with ⟨h17, hr⟩ | ⟨h17, hr⟩
    · refine gBrT (p := (mI μ (mP μ (mP μ a0 0) (Int32.toNatClampNeg a1)) 5) < 4) (y := 24) (is := List.drop 11 mC24) (L := [.ref a0, .int a1, .retAddr 0, .retAddr 0]) (st := []) (μ := μ) (t := 23) rfl h17 ?_
      refine mGo.steps 1 (c' := (24, List.drop 14 mC24, [.ref a0, .int a1, .retAddr 0, .retAddr 0], [.ref a0], μ)) rfl ?_
      refine gGet (is := List.drop 15 mC24) (v := .ref (mP μ a0 0)) h1 rfl ?_
      refine mGo.steps 1 (c' := (24, List.drop 16 mC24, [.ref a0, .int a1, .retAddr 0, .retAddr 0], [.int a1, .ref (mP μ a0 0)], μ)) rfl ?_
      refine gAald (is := List.drop 17 mC24) h4 ?_
      refine gGet (is := List.drop 18 mC24) (v := .int (mI μ (mP μ (mP μ a0 0) (Int32.toNatClampNeg a1)) 1)) h5 rfl ?_
      obtain ⟨q6, h7, hr⟩ := mBi hr
      refine mGo.call (z := 133) (as := [.int (mI μ (mP μ (mP μ a0 0) (Int32.toNatClampNeg a1)) 1)]) (y := 24) (is := List.drop 19 mC24) (L := [.ref a0, .int a1, .retAddr 0, .retAddr 0]) (st := []) (μ := μ) rfl (t133 h7) ?_
      refine mGo.steps 3 (c' := (24, List.drop 22 mC24, [.ref a0, .int a1, .int q6, .int 0], [], μ)) rfl ?_
      obtain ⟨o13, h16, hr⟩ := mBi hr
      refine t24L22l μ a0 a1 q6 1000 0 o13 h16 ?_ 
      cases o13 with
      | inl x14 =>
        show ∀ (w0 : Value) (hw0 : mNotL w0 = true) (w1 : Value) (hw1 : mNotL w1 = true) (w2 : Value) (hw2 : mNotL w2 = true) (w3 : Value) (hw3 : mNotL w3 = true), mGo mG (24, List.drop 35 mC24, [w0, w1, w2, w3], [], μ) r
        intro w0 hw0 w1 hw1 w2 hw2 w3 hw3
        replace hr : (_) = some _ := hr
        refine mGo.steps 1 (c' := (24, List.drop 36 mC24, [w0, w1, w2, w3], [.int (-1)], μ)) rfl ?_
        obtain rfl := Option.some.inj hr
        rw [show r = _ from hC]
        exact gIret rfl
      | inr y15 =>
        obtain rfl := Option.some.inj hr
        exact hC
    · refine gBrF (p := (mI μ (mP μ (mP μ a0 0) (Int32.toNatClampNeg a1)) 5) < 4) (y := 24) (is := List.drop 11 mC24) (L := [.ref a0, .int a1, .retAddr 0, .retAddr 0]) (st := []) (μ := μ) (t := 23) rfl h17 ?_
      exact t24_11 μ a0 a1 (.ref a0) rfl (.int a1) rfl (.retAddr 0) rfl (.retAddr 0) rfl hr hC

/-! 52: TunnelFabric$Link.renew(III)V -/
def s52L27 (p0 : Nat) (s : Int32 × mM) : Option ((Int32 × mM) ⊕ ((mM) ⊕ mM)) :=
  if 2 ≤ s.1 then (some (.inr (.inl s.2))) else (if (mS s.2 p0).1 = 2 then if (mS s.2 (mP s.2 p0 6)).1 = 10 ∧ mInb s.1 (mS s.2 (mP s.2 p0 6)).2 then (some (mUI s.2 (mP s.2 p0 6) (Int32.toNatClampNeg s.1) (-1))).bind fun μ13 => if (mS μ13 (mP μ13 p0 7)).1 = 10 ∧ mInb s.1 (mS μ13 (mP μ13 p0 7)).2 then (some (mUI μ13 (mP μ13 p0 7) (Int32.toNatClampNeg s.1) 0)).bind fun μ15 => if (mS μ15 (mP μ15 p0 8)).1 = 11 ∧ mInb s.1 (mS μ15 (mP μ15 p0 8)).2 then (some (mUF μ15 (mP μ15 p0 8) (Int32.toNatClampNeg s.1) FP.fconst0)).bind fun μ17 => some (.inl (s.1 + 1, μ17)) else none else none else none else none)
set_option maxRecDepth 20000 in
theorem t52L27 (p0 : Nat) {r : Option Value × mM} (s : Int32 × mM) (o : ((Int32 × mM) ⊕ ((mM) ⊕ mM))) (hr : s52L27 p0 s = some o) (hC : Sum.elim (fun s' : Int32 × mM => ∀ (w1 : Value) (hw1 : mNotL w1 = true) (w2 : Value) (hw2 : mNotL w2 = true) (w3 : Value) (hw3 : mNotL w3 = true), mGo mG (52, List.drop 27 mC52, [.ref p0, w1, w2, w3, .int s'.1], [], s'.2) r) (Sum.elim (fun x : mM => ∀ (w0 : Value) (hw0 : mNotL w0 = true) (w1 : Value) (hw1 : mNotL w1 = true) (w2 : Value) (hw2 : mNotL w2 = true) (w3 : Value) (hw3 : mNotL w3 = true) (w4 : Value) (hw4 : mNotL w4 = true), mGo mG (52, List.drop 47 mC52, [w0, w1, w2, w3, w4], [], x) r) (fun y : mM => r = (none, y))) o) : ∀ (w1 : Value) (hw1 : mNotL w1 = true) (w2 : Value) (hw2 : mNotL w2 = true) (w3 : Value) (hw3 : mNotL w3 = true), mGo mG (52, List.drop 27 mC52, [.ref p0, w1, w2, w3, .int s.1], [], s.2) r := by
  intro w1 hw1 w2 hw2 w3 hw3
  unfold s52L27 at hr
  refine mGo.steps 2 (c' := (52, List.drop 29 mC52, [.ref p0, w1, w2, w3, .int s.1], [.int 2, .int s.1], s.2)) rfl ?_
  rcases mIte hr with ⟨h18, hr⟩ | ⟨h18, hr⟩
  · refine gBrT (p := 2 ≤ s.1) (y := 52) (is := List.drop 30 mC52) (L := [.ref p0, w1, w2, w3, .int s.1]) (st := []) (μ := s.2) (t := 78) rfl h18 ?_
    obtain rfl := Option.some.inj hr
    exact hC (.ref p0) rfl w1 hw1 w2 hw2 w3 hw3 (.int s.1) rfl
  · refine gBrF (p := 2 ≤ s.1) (y := 52) (is := List.drop 30 mC52) (L := [.ref p0, w1, w2, w3, .int s.1]) (st := []) (μ := s.2) (t := 78) rfl h18 ?_
    refine mGo.steps 1 (c' := (52, List.drop 31 mC52, [.ref p0, w1, w2, w3, .int s.1], [.ref p0], s.2)) rfl ?_
    obtain ⟨h11, hr⟩ := mIf hr
    refine gGet (is := List.drop 32 mC52) (v := .ref (mP s.2 p0 6)) h11 rfl ?_
    refine mGo.steps 2 (c' := (52, List.drop 34 mC52, [.ref p0, w1, w2, w3, .int s.1], [.int (-1), .int s.1, .ref (mP s.2 p0 6)], s.2)) rfl ?_
    obtain ⟨h12, hr⟩ := mIf hr
    replace hr := mBs hr
    refine gIast (is := List.drop 35 mC52) h12 ?_
    let μ13 : mM := mUI s.2 (mP s.2 p0 6) (Int32.toNatClampNeg s.1) (-1)
    refine mGo.steps 1 (c' := (52, List.drop 36 mC52, [.ref p0, w1, w2, w3, .int s.1], [.ref p0], μ13)) rfl ?_
    refine gGet (is := List.drop 37 mC52) (v := .ref (mP μ13 p0 7)) h11 rfl ?_
    refine mGo.steps 2 (c' := (52, List.drop 39 mC52, [.ref p0, w1, w2, w3, .int s.1], [.int 0, .int s.1, .ref (mP μ13 p0 7)], μ13)) rfl ?_
    obtain ⟨h14, hr⟩ := mIf hr
    replace hr := mBs hr
    refine gIast (is := List.drop 40 mC52) h14 ?_
    let μ15 : mM := mUI μ13 (mP μ13 p0 7) (Int32.toNatClampNeg s.1) 0
    refine mGo.steps 1 (c' := (52, List.drop 41 mC52, [.ref p0, w1, w2, w3, .int s.1], [.ref p0], μ15)) rfl ?_
    refine gGet (is := List.drop 42 mC52) (v := .ref (mP μ15 p0 8)) h11 rfl ?_
    refine mGo.steps 2 (c' := (52, List.drop 44 mC52, [.ref p0, w1, w2, w3, .int s.1], [.float FP.fconst0, .int s.1, .ref (mP μ15 p0 8)], μ15)) rfl ?_
    obtain ⟨h16, hr⟩ := mIf hr
    replace hr := mBs hr
    refine gFast (is := List.drop 45 mC52) h16 ?_
    let μ17 : mM := mUF μ15 (mP μ15 p0 8) (Int32.toNatClampNeg s.1) FP.fconst0
    refine gSt1 (L := [.ref p0, w1, w2, w3, .int s.1]) (q := 4) (w := .int (s.1 + 1)) (is := List.drop 46 mC52) (st := []) (μ := μ17) rfl (Nat.le_of_ble_eq_true rfl) hw3 ?_
    refine mGo.steps 1 (c' := (52, List.drop 27 mC52, [.ref p0, w1, w2, w3, .int (s.1 + 1)], [], μ17)) rfl ?_
    obtain rfl := Option.some.inj hr
    exact hC w1 hw1 w2 hw2 w3 hw3
theorem t52L27l (p0 : Nat) {r : Option Value × mM} (n : Nat) (s : Int32 × mM) (o : (mM) ⊕ mM) (hr : mLoop (s52L27 p0) n s = some o) (hC : Sum.elim (fun x : mM => ∀ (w0 : Value) (hw0 : mNotL w0 = true) (w1 : Value) (hw1 : mNotL w1 = true) (w2 : Value) (hw2 : mNotL w2 = true) (w3 : Value) (hw3 : mNotL w3 = true) (w4 : Value) (hw4 : mNotL w4 = true), mGo mG (52, List.drop 47 mC52, [w0, w1, w2, w3, w4], [], x) r) (fun y : mM => r = (none, y)) o) : ∀ (w1 : Value) (hw1 : mNotL w1 = true) (w2 : Value) (hw2 : mNotL w2 = true) (w3 : Value) (hw3 : mNotL w3 = true), mGo mG (52, List.drop 27 mC52, [.ref p0, w1, w2, w3, .int s.1], [], s.2) r :=
  mLoop_go (Hd := (fun s' : Int32 × mM => ∀ (w1 : Value) (hw1 : mNotL w1 = true) (w2 : Value) (hw2 : mNotL w2 = true) (w3 : Value) (hw3 : mNotL w3 = true), mGo mG (52, List.drop 27 mC52, [.ref p0, w1, w2, w3, .int s'.1], [], s'.2) r)) (fun s o hb hC => t52L27 p0 s o hb hC) n s o hr hC
def s52 (μ : mM) (a0 : Nat) (a1 : Int32) (a2 : Int32) (a3 : Int32) : Option mM :=
  if (mS μ a0).1 = 2 then (some (mUI μ a0 0 a1)).bind fun μ2 => (some (mUI μ2 a0 1 0)).bind fun μ3 => (some (mUI μ3 a0 2 0)).bind fun μ4 => (some (mUI μ4 a0 3 0)).bind fun μ5 => (some (mUI μ5 a0 4 0)).bind fun μ6 => if (mS μ6 (mP μ6 a0 5)).1 = 10 ∧ mInb 0 (mS μ6 (mP μ6 a0 5)).2 then (some (mUI μ6 (mP μ6 a0 5) (Int32.toNatClampNeg 0) a2)).bind fun μ8 => if (mS μ8 (mP μ8 a0 5)).1 = 10 ∧ mInb 1 (mS μ8 (mP μ8 a0 5)).2 then (some (mUI μ8 (mP μ8 a0 5) (Int32.toNatClampNeg 1) a3)).bind fun μ10 => (mLoop (s52L27 a0) 1000 (0, μ10)).bind fun o19 => Sum.elim (fun x20 => some x20) (fun y21 => some y21) o19 else none else none else none
set_option maxRecDepth 20000 in
theorem t52 {μ : mM} {a0 : Nat} {a1 : Int32} {a2 : Int32} {a3 : Int32} {o : mM} (hr : s52 μ a0 a1 a2 a3 = some o) : mEv mG 52 [.ref a0, .int a1, .int a2, .int a3] μ (none) (o) := by
  obtain ⟨r, hC⟩ : ∃ r : Option Value × mM, r = (none, o) := ⟨_, rfl⟩
  show mGo mG (52, List.drop 0 mC52, [.ref a0, .int a1, .int a2, .int a3, .retAddr 0], [], μ) (none, o)
  rw [← hC]
  unfold s52 at hr
  refine mGo.steps 2 (c' := (52, List.drop 2 mC52, [.ref a0, .int a1, .int a2, .int a3, .retAddr 0], [.int a1, .ref a0], μ)) rfl ?_
  obtain ⟨h1, hr⟩ := mIf hr
  replace hr := mBs hr
  refine gPut (is := List.drop 3 mC52) (μ' := mUI μ a0 0 a1) h1 rfl ?_
  let μ2 : mM := mUI μ a0 0 a1
  refine mGo.steps 2 (c' := (52, List.drop 5 mC52, [.ref a0, .int a1, .int a2, .int a3, .retAddr 0], [.int 0, .ref a0], μ2)) rfl ?_
  replace hr := mBs hr
  refine gPut (is := List.drop 6 mC52) (μ' := mUI μ2 a0 1 0) h1 (gZ (by decide)) ?_
  let μ3 : mM := mUI μ2 a0 1 0
  refine mGo.steps 2 (c' := (52, List.drop 8 mC52, [.ref a0, .int a1, .int a2, .int a3, .retAddr 0], [.int 0, .ref a0], μ3)) rfl ?_
  replace hr := mBs hr
  refine gPut (is := List.drop 9 mC52) (μ' := mUI μ3 a0 2 0) h1 rfl ?_
  let μ4 : mM := mUI μ3 a0 2 0
  refine mGo.steps 2 (c' := (52, List.drop 11 mC52, [.ref a0, .int a1, .int a2, .int a3, .retAddr 0], [.int 0, .ref a0], μ4)) rfl ?_
  replace hr := mBs hr
  refine gPut (is := List.drop 12 mC52) (μ' := mUI μ4 a0 3 0) h1 rfl ?_
  let μ5 : mM := mUI μ4 a0 3 0
  refine mGo.steps 2 (c' := (52, List.drop 14 mC52, [.ref a0, .int a1, .int a2, .int a3, .retAddr 0], [.int 0, .ref a0], μ5)) rfl ?_
  replace hr := mBs hr
  refine gPut (is := List.drop 15 mC52) (μ' := mUI μ5 a0 4 0) h1 rfl ?_
  let μ6 : mM := mUI μ5 a0 4 0
  refine mGo.steps 1 (c' := (52, List.drop 16 mC52, [.ref a0, .int a1, .int a2, .int a3, .retAddr 0], [.ref a0], μ6)) rfl ?_
  refine gGet (is := List.drop 17 mC52) (v := .ref (mP μ6 a0 5)) h1 rfl ?_
  refine mGo.steps 2 (c' := (52, List.drop 19 mC52, [.ref a0, .int a1, .int a2, .int a3, .retAddr 0], [.int a2, .int 0, .ref (mP μ6 a0 5)], μ6)) rfl ?_
  obtain ⟨h7, hr⟩ := mIf hr
  replace hr := mBs hr
  refine gIast (is := List.drop 20 mC52) h7 ?_
  let μ8 : mM := mUI μ6 (mP μ6 a0 5) (Int32.toNatClampNeg 0) a2
  refine mGo.steps 1 (c' := (52, List.drop 21 mC52, [.ref a0, .int a1, .int a2, .int a3, .retAddr 0], [.ref a0], μ8)) rfl ?_
  refine gGet (is := List.drop 22 mC52) (v := .ref (mP μ8 a0 5)) h1 rfl ?_
  refine mGo.steps 2 (c' := (52, List.drop 24 mC52, [.ref a0, .int a1, .int a2, .int a3, .retAddr 0], [.int a3, .int 1, .ref (mP μ8 a0 5)], μ8)) rfl ?_
  obtain ⟨h9, hr⟩ := mIf hr
  replace hr := mBs hr
  refine gIast (is := List.drop 25 mC52) h9 ?_
  let μ10 : mM := mUI μ8 (mP μ8 a0 5) (Int32.toNatClampNeg 1) a3
  refine mGo.steps 2 (c' := (52, List.drop 27 mC52, [.ref a0, .int a1, .int a2, .int a3, .int 0], [], μ10)) rfl ?_
  obtain ⟨o19, h22, hr⟩ := mBi hr
  refine t52L27l a0 1000 (0, μ10) o19 h22 ?_ (.int a1) rfl (.int a2) rfl (.int a3) rfl
  cases o19 with
  | inl x20 =>
    show ∀ (w0 : Value) (hw0 : mNotL w0 = true) (w1 : Value) (hw1 : mNotL w1 = true) (w2 : Value) (hw2 : mNotL w2 = true) (w3 : Value) (hw3 : mNotL w3 = true) (w4 : Value) (hw4 : mNotL w4 = true), mGo mG (52, List.drop 47 mC52, [w0, w1, w2, w3, w4], [], x20) r
    intro w0 hw0 w1 hw1 w2 hw2 w3 hw3 w4 hw4
    replace hr : (_) = some _ := hr
    obtain rfl := Option.some.inj hr
    rw [show r = _ from hC]
    exact gVret rfl
  | inr y21 =>
    obtain rfl := Option.some.inj hr
    exact hC

/-! 134: TunnelFabric.buffersOf(I)I -/
def s134 (μ : mM) (a0 : Int32) : Option Int32 :=
  if a0 = 0 then (some 24) else (if a0 = 1 then (some 12) else (if a0 = 2 then (some 16) else (if a0 = 3 then (some 16) else (some 40))))
set_option maxRecDepth 20000 in
theorem t134 {μ : mM} {a0 : Int32} {o : Int32} (hr : s134 μ a0 = some o) : mEv mG 134 [.int a0] μ (some (.int o)) (μ) := by
  obtain ⟨r, hC⟩ : ∃ r : Option Value × mM, r = (some (.int o), μ) := ⟨_, rfl⟩
  show mGo mG (134, List.drop 0 mC134, [.int a0], [], μ) (some (.int o), μ)
  rw [← hC]
  unfold s134 at hr
  refine mGo.steps 1 (c' := (134, List.drop 1 mC134, [.int a0], [.int a0], μ)) rfl ?_
  refine mGo.steps 1 (c' := (134, mSeek (mTs a0 0 [32, 35, 38, 41] 44) (rC (mG 134)), [.int a0], [], μ)) rfl ?_
  rcases mIte hr with ⟨h1, hr⟩ | ⟨h1, hr⟩
  · refine gTs1 (w := 0) h1 rfl ?_
    refine mGo.steps 1 (c' := (134, List.drop 3 mC134, [.int a0], [.int 24], μ)) rfl ?_
    obtain rfl := Option.some.inj hr
    rw [show r = _ from hC]
    exact gIret rfl
  · refine gTs0 (w := 0) h1 rfl ?_
    rcases mIte hr with ⟨h2, hr⟩ | ⟨h2, hr⟩
    · refine gTs1 (w := 1) h2 rfl ?_
      refine mGo.steps 1 (c' := (134, List.drop 5 mC134, [.int a0], [.int 12], μ)) rfl ?_
      obtain rfl := Option.some.inj hr
      rw [show r = _ from hC]
      exact gIret rfl
    · refine gTs0 (w := 1) h2 rfl ?_
      rcases mIte hr with ⟨h3, hr⟩ | ⟨h3, hr⟩
      · refine gTs1 (w := 2) h3 rfl ?_
        refine mGo.steps 1 (c' := (134, List.drop 7 mC134, [.int a0], [.int 16], μ)) rfl ?_
        obtain rfl := Option.some.inj hr
        rw [show r = _ from hC]
        exact gIret rfl
      · refine gTs0 (w := 2) h3 rfl ?_
        rcases mIte hr with ⟨h4, hr⟩ | ⟨h4, hr⟩
        · refine gTs1 (w := 3) h4 rfl ?_
          refine mGo.steps 1 (c' := (134, List.drop 9 mC134, [.int a0], [.int 16], μ)) rfl ?_
          obtain rfl := Option.some.inj hr
          rw [show r = _ from hC]
          exact gIret rfl
        · refine gTs0 (w := 3) h4 rfl ?_
          refine mGo.steps 1 (c' := (134, List.drop 11 mC134, [.int a0], [.int 40], μ)) rfl ?_
          obtain rfl := Option.some.inj hr
          rw [show r = _ from hC]
          exact gIret rfl

/-! 135: TunnelFabric.buffersPerPort(I)I -/
def s135_11 (μ : mM) (a0 : Int32) (t0 : Int32) : Option Int32 :=
  some t0
set_option maxRecDepth 20000 in
theorem t135_11 (μ : mM) (a0 : Int32) (t0 : Int32) (w0 : Value) (hw0 : mNotL w0 = true) (w1 : Value) (hw1 : mNotL w1 = true) {o : Int32} {r : Option Value × mM} (hr : s135_11 μ a0 t0 = some o) (hC : r = (some (.int o), μ)) : mGo mG (135, List.drop 11 mC135, [w0, w1], [.int t0], μ) r := by
  unfold s135_11 at hr
  obtain rfl := Option.some.inj hr
  rw [show r = _ from hC]
  exact gIret rfl
def s135 (μ : mM) (a0 : Int32) : Option Int32 :=
  (s133 μ a0).bind fun q1 => if ¬ q1 = 0 then ((s134 μ a0).bind fun q3 => if ¬ q1 = 0 then s135_11 μ a0 (q3 / q1) else none) else (s135_11 μ a0 0)
set_option maxRecDepth 20000 in
theorem t135 {μ : mM} {a0 : Int32} {o : Int32} (hr : s135 μ a0 = some o) : mEv mG 135 [.int a0] μ (some (.int o)) (μ) := by
  obtain ⟨r, hC⟩ : ∃ r : Option Value × mM, r = (some (.int o), μ) := ⟨_, rfl⟩
  show mGo mG (135, List.drop 0 mC135, [.int a0, .retAddr 0], [], μ) (some (.int o), μ)
  rw [← hC]
  unfold s135 at hr
  refine mGo.steps 1 (c' := (135, List.drop 1 mC135, [.int a0, .retAddr 0], [.int a0], μ)) rfl ?_
  obtain ⟨q1, h2, hr⟩ := mBi hr
  refine mGo.call (z := 133) (as := [.int a0]) (y := 135) (is := List.drop 2 mC135) (L := [.int a0, .retAddr 0]) (st := []) (μ := μ) rfl (t133 h2) ?_
  refine mGo.steps 2 (c' := (135, List.drop 4 mC135, [.int a0, .int q1], [.int q1], μ)) rfl ?_
  rcases mIte hr with ⟨h6, hr⟩ | ⟨h6, hr⟩
  · refine gBrT (p := ¬ q1 = 0) (y := 135) (is := List.drop 5 mC135) (L := [.int a0, .int q1]) (st := []) (μ := μ) (t := 13) rfl h6 ?_
    refine mGo.steps 1 (c' := (135, List.drop 8 mC135, [.int a0, .int q1], [.int a0], μ)) rfl ?_
    obtain ⟨q3, h4, hr⟩ := mBi hr
    refine mGo.call (z := 134) (as := [.int a0]) (y := 135) (is := List.drop 9 mC135) (L := [.int a0, .int q1]) (st := []) (μ := μ) rfl (t134 h4) ?_
    refine mGo.steps 1 (c' := (135, List.drop 10 mC135, [.int a0, .int q1], [.int q1, .int q3], μ)) rfl ?_
    obtain ⟨h5, hr⟩ := mIf hr
    refine gDiv (is := List.drop 11 mC135) h5 ?_
    exact t135_11 μ a0 (q3 / q1) (.int a0) rfl (.int q1) rfl hr hC
  · refine gBrF (p := ¬ q1 = 0) (y := 135) (is := List.drop 5 mC135) (L := [.int a0, .int q1]) (st := []) (μ := μ) (t := 13) rfl h6 ?_
    refine mGo.steps 2 (c' := (135, List.drop 11 mC135, [.int a0, .int q1], [.int 0], μ)) rfl ?_
    exact t135_11 μ a0 0 (.int a0) rfl (.int q1) rfl hr hC

/-! 25: TunnelFabric$Fabric.attach(IIIII)V -/
def s25 (μ : mM) (a0 : Nat) (a1 : Int32) (a2 : Int32) (a3 : Int32) (a4 : Int32) (a5 : Int32) : Option mM :=
  if (mS μ a0).1 = 1 then (s18 μ a0 a2).bind fun q2 => (s18 μ a0 a1).bind fun q4 => if (mS μ q4).1 = 4 then (some (mUI μ q4 0 1)).bind fun μ7 => (some (mUI μ7 q4 1 a4)).bind fun μ8 => (some (mUI μ8 q4 2 a5)).bind fun μ9 => (some (mUI μ9 q4 3 a2)).bind fun μ10 => (some (mUI μ10 q4 4 a3)).bind fun μ11 => if (mS μ11 q2).1 = 4 then (some (mUI μ11 q4 5 ((mI μ11 q2 5) + 1))).bind fun μ13 => (s134 μ13 a4).bind fun q14 => (s135 μ13 (mI μ13 q2 1)).bind fun q16 => if (mS μ13 (mP μ13 q4 6)).1 = 2 then (s52 μ13 (mP μ13 q4 6) (mMin a5 (mI μ13 q2 2)) q14 q16).bind fun q19 => some q19 else none else none else none else none
set_option maxRecDepth 20000 in
theorem t25 {μ : mM} {a0 : Nat} {a1 : Int32} {a2 : Int32} {a3 : Int32} {a4 : Int32} {a5 : Int32} {o : mM} (hr : s25 μ a0 a1 a2 a3 a4 a5 = some o) : mEv mG 25 [.ref a0, .int a1, .int a2, .int a3, .int a4, .int a5] μ (none) (o) := by
  obtain ⟨r, hC⟩ : ∃ r : Option Value × mM, r = (none, o) := ⟨_, rfl⟩
  show mGo mG (25, List.drop 0 mC25, [.ref a0, .int a1, .int a2, .int a3, .int a4, .int a5, .retAddr 0, .retAddr 0], [], μ) (none, o)
  rw [← hC]
  unfold s25 at hr
  refine mGo.steps 2 (c' := (25, List.drop 2 mC25, [.ref a0, .int a1, .int a2, .int a3, .int a4, .int a5, .retAddr 0, .retAddr 0], [.int a2, .ref a0], μ)) rfl ?_
  obtain ⟨h1, hr⟩ := mIf hr
  obtain ⟨q2, h3, hr⟩ := mBi hr
  refine gCall (z := 18) (n := 1) (f := 0) (kind := 1) (a := a0) (As := [.int a2]) (y := 25) (is := List.drop 3 mC25) (L := [.ref a0, .int a1, .int a2, .int a3, .int a4, .int a5, .retAddr 0, .retAddr 0]) (rest := []) (μ := μ) rfl (by decide) (by decide) ⟨rfl, rfl⟩ rfl h1 (Nat.le_of_ble_eq_true rfl) (Nat.le_of_ble_eq_true rfl) (t18 h3) ?_
  refine mGo.steps 3 (c' := (25, List.drop 6 mC25, [.ref a0, .int a1, .int a2, .int a3, .int a4, .int a5, .ref q2, .retAddr 0], [.int a1, .ref a0], μ)) rfl ?_
  obtain ⟨q4, h5, hr⟩ := mBi hr
  refine gCall (z := 18) (n := 1) (f := 0) (kind := 1) (a := a0) (As := [.int a1]) (y := 25) (is := List.drop 7 mC25) (L := [.ref a0, .int a1, .int a2, .int a3, .int a4, .int a5, .ref q2, .retAddr 0]) (rest := []) (μ := μ) rfl (by decide) (by decide) ⟨rfl, rfl⟩ rfl h1 (Nat.le_of_ble_eq_true rfl) (Nat.le_of_ble_eq_true rfl) (t18 h5) ?_
  refine mGo.steps 3 (c' := (25, List.drop 10 mC25, [.ref a0, .int a1, .int a2, .int a3, .int a4, .int a5, .ref q2, .ref q4], [.int 1, .ref q4], μ)) rfl ?_
  obtain ⟨h6, hr⟩ := mIf hr
  replace hr := mBs hr
  refine gPut (is := List.drop 11 mC25) (μ' := mUI μ q4 0 1) h6 (gZ (by decide)) ?_
  let μ7 : mM := mUI μ q4 0 1
  refine mGo.steps 2 (c' := (25, List.drop 13 mC25, [.ref a0, .int a1, .int a2, .int a3, .int a4, .int a5, .ref q2, .ref q4], [.int a4, .ref q4], μ7)) rfl ?_
  replace hr := mBs hr
  refine gPut (is := List.drop 14 mC25) (μ' := mUI μ7 q4 1 a4) h6 rfl ?_
  let μ8 : mM := mUI μ7 q4 1 a4
  refine mGo.steps 2 (c' := (25, List.drop 16 mC25, [.ref a0, .int a1, .int a2, .int a3, .int a4, .int a5, .ref q2, .ref q4], [.int a5, .ref q4], μ8)) rfl ?_
  replace hr := mBs hr
  refine gPut (is := List.drop 17 mC25) (μ' := mUI μ8 q4 2 a5) h6 rfl ?_
  let μ9 : mM := mUI μ8 q4 2 a5
  refine mGo.steps 2 (c' := (25, List.drop 19 mC25, [.ref a0, .int a1, .int a2, .int a3, .int a4, .int a5, .ref q2, .ref q4], [.int a2, .ref q4], μ9)) rfl ?_
  replace hr := mBs hr
  refine gPut (is := List.drop 20 mC25) (μ' := mUI μ9 q4 3 a2) h6 rfl ?_
  let μ10 : mM := mUI μ9 q4 3 a2
  refine mGo.steps 2 (c' := (25, List.drop 22 mC25, [.ref a0, .int a1, .int a2, .int a3, .int a4, .int a5, .ref q2, .ref q4], [.int a3, .ref q4], μ10)) rfl ?_
  replace hr := mBs hr
  refine gPut (is := List.drop 23 mC25) (μ' := mUI μ10 q4 4 a3) h6 rfl ?_
  let μ11 : mM := mUI μ10 q4 4 a3
  refine mGo.steps 2 (c' := (25, List.drop 25 mC25, [.ref a0, .int a1, .int a2, .int a3, .int a4, .int a5, .ref q2, .ref q4], [.ref q2, .ref q4], μ11)) rfl ?_
  obtain ⟨h12, hr⟩ := mIf hr
  refine gGet (is := List.drop 26 mC25) (v := .int (mI μ11 q2 5)) h12 rfl ?_
  refine mGo.steps 2 (c' := (25, List.drop 28 mC25, [.ref a0, .int a1, .int a2, .int a3, .int a4, .int a5, .ref q2, .ref q4], [.int ((mI μ11 q2 5) + 1), .ref q4], μ11)) rfl ?_
  replace hr := mBs hr
  refine gPut (is := List.drop 29 mC25) (μ' := mUI μ11 q4 5 ((mI μ11 q2 5) + 1)) h6 rfl ?_
  let μ13 : mM := mUI μ11 q4 5 ((mI μ11 q2 5) + 1)
  refine mGo.steps 1 (c' := (25, List.drop 30 mC25, [.ref a0, .int a1, .int a2, .int a3, .int a4, .int a5, .ref q2, .ref q4], [.ref q4], μ13)) rfl ?_
  refine gGet (is := List.drop 31 mC25) (v := .ref (mP μ13 q4 6)) h6 rfl ?_
  refine mGo.steps 2 (c' := (25, List.drop 33 mC25, [.ref a0, .int a1, .int a2, .int a3, .int a4, .int a5, .ref q2, .ref q4], [.ref q2, .int a5, .ref (mP μ13 q4 6)], μ13)) rfl ?_
  refine gGet (is := List.drop 34 mC25) (v := .int (mI μ13 q2 2)) h12 rfl ?_
  refine mGo.steps 2 (c' := (25, List.drop 36 mC25, [.ref a0, .int a1, .int a2, .int a3, .int a4, .int a5, .ref q2, .ref q4], [.int a4, .int (mMin a5 (mI μ13 q2 2)), .ref (mP μ13 q4 6)], μ13)) rfl ?_
  obtain ⟨q14, h15, hr⟩ := mBi hr
  refine mGo.call (z := 134) (as := [.int a4]) (y := 25) (is := List.drop 37 mC25) (L := [.ref a0, .int a1, .int a2, .int a3, .int a4, .int a5, .ref q2, .ref q4]) (st := [.int (mMin a5 (mI μ13 q2 2)), .ref (mP μ13 q4 6)]) (μ := μ13) rfl (t134 h15) ?_
  refine mGo.steps 1 (c' := (25, List.drop 38 mC25, [.ref a0, .int a1, .int a2, .int a3, .int a4, .int a5, .ref q2, .ref q4], [.ref q2, .int q14, .int (mMin a5 (mI μ13 q2 2)), .ref (mP μ13 q4 6)], μ13)) rfl ?_
  refine gGet (is := List.drop 39 mC25) (v := .int (mI μ13 q2 1)) h12 rfl ?_
  obtain ⟨q16, h17, hr⟩ := mBi hr
  refine mGo.call (z := 135) (as := [.int (mI μ13 q2 1)]) (y := 25) (is := List.drop 40 mC25) (L := [.ref a0, .int a1, .int a2, .int a3, .int a4, .int a5, .ref q2, .ref q4]) (st := [.int q14, .int (mMin a5 (mI μ13 q2 2)), .ref (mP μ13 q4 6)]) (μ := μ13) rfl (t135 h17) ?_
  obtain ⟨h18, hr⟩ := mIf hr
  obtain ⟨q19, h20, hr⟩ := mBi hr
  refine gCall (z := 52) (n := 3) (f := 0) (kind := 1) (a := (mP μ13 q4 6)) (As := [.int (mMin a5 (mI μ13 q2 2)), .int q14, .int q16]) (y := 25) (is := List.drop 41 mC25) (L := [.ref a0, .int a1, .int a2, .int a3, .int a4, .int a5, .ref q2, .ref q4]) (rest := []) (μ := μ13) rfl (by decide) (by decide) ⟨rfl, rfl⟩ rfl h18 (Nat.le_of_ble_eq_true rfl) (Nat.le_of_ble_eq_true rfl) (t52 h20) ?_
  obtain rfl := Option.some.inj hr
  rw [show r = _ from hC]
  exact gVret rfl

/-! 26: TunnelFabric$Fabric.detach(I)I -/
def s26L4_25 (p0 : Nat) (p1 : Int32) (μ : mM) (v2 : Int32) (v3 : Int32) : Option ((Int32 × Int32 × mM) ⊕ ((Int32 × mM) ⊕ (Int32 × mM))) :=
  some (.inl (v2, v3 + 1, μ))
set_option maxRecDepth 20000 in
theorem t26L4_25 (p0 : Nat) (p1 : Int32) (μ : mM) (v2 : Int32) (v3 : Int32) {o : ((Int32 × Int32 × mM) ⊕ ((Int32 × mM) ⊕ (Int32 × mM)))} {r : Option Value × mM} (hr : s26L4_25 p0 p1 μ v2 v3 = some o) (hC : Sum.elim (fun s' : Int32 × Int32 × mM => mGo mG (26, List.drop 4 mC26, [.ref p0, .int p1, .int s'.1, .int s'.2.1], [], s'.2.2) r) (Sum.elim (fun x : Int32 × mM => ∀ (w0 : Value) (hw0 : mNotL w0 = true) (w1 : Value) (hw1 : mNotL w1 = true) (w3 : Value) (hw3 : mNotL w3 = true), mGo mG (26, List.drop 27 mC26, [w0, w1, .int x.1, w3], [], x.2) r) (fun y : (Int32 × mM) => r = (some (.int y.1), y.2))) o) : mGo mG (26, List.drop 25 mC26, [.ref p0, .int p1, .int v2, .int v3], [], μ) r := by
  unfold s26L4_25 at hr
  refine mGo.steps 2 (c' := (26, List.drop 4 mC26, [.ref p0, .int p1, .int v2, .int (v3 + 1)], [], μ)) rfl ?_
  obtain rfl := Option.some.inj hr
  exact hC
def s26L4 (p0 : Nat) (p1 : Int32) (s : Int32 × Int32 × mM) : Option ((Int32 × Int32 × mM) ⊕ ((Int32 × mM) ⊕ (Int32 × mM))) :=
  if 8 ≤ s.2.1 then (some (.inr (.inl (s.1, s.2.2)))) else (if (mS s.2.2 p0).1 = 1 then if (mS s.2.2 (mP s.2.2 p0 0)).1 = 20 + 4 ∧ mInb s.2.1 (mS s.2.2 (mP s.2.2 p0 0)).2 then if (mS s.2.2 (mP s.2.2 (mP s.2.2 p0 0) (Int32.toNatClampNeg s.2.1))).1 = 4 then if (mI s.2.2 (mP s.2.2 (mP s.2.2 p0 0) (Int32.toNatClampNeg s.2.1)) 0) = 0 then (s26L4_25 p0 p1 s.2.2 s.1 s.2.1) else ((s27 s.2.2 p0 s.2.1 p1).bind fun q4 => if q4 = 0 then (s26L4_25 p0 p1 s.2.2 s.1 s.2.1) else ((some (mUI s.2.2 (mP s.2.2 (mP s.2.2 p0 0) (Int32.toNatClampNeg s.2.1)) 0 0)).bind fun μ6 => s26L4_25 p0 p1 μ6 (s.1 + 1) s.2.1)) else none else none else none)
set_option maxRecDepth 20000 in
theorem t26L4 (p0 : Nat) (p1 : Int32) {r : Option Value × mM} (s : Int32 × Int32 × mM) (o : ((Int32 × Int32 × mM) ⊕ ((Int32 × mM) ⊕ (Int32 × mM)))) (hr : s26L4 p0 p1 s = some o) (hC : Sum.elim (fun s' : Int32 × Int32 × mM => mGo mG (26, List.drop 4 mC26, [.ref p0, .int p1, .int s'.1, .int s'.2.1], [], s'.2.2) r) (Sum.elim (fun x : Int32 × mM => ∀ (w0 : Value) (hw0 : mNotL w0 = true) (w1 : Value) (hw1 : mNotL w1 = true) (w3 : Value) (hw3 : mNotL w3 = true), mGo mG (26, List.drop 27 mC26, [w0, w1, .int x.1, w3], [], x.2) r) (fun y : (Int32 × mM) => r = (some (.int y.1), y.2))) o) : mGo mG (26, List.drop 4 mC26, [.ref p0, .int p1, .int s.1, .int s.2.1], [], s.2.2) r := by
  unfold s26L4 at hr
  refine mGo.steps 2 (c' := (26, List.drop 6 mC26, [.ref p0, .int p1, .int s.1, .int s.2.1], [.int 8, .int s.2.1], s.2.2)) rfl ?_
  rcases mIte hr with ⟨h9, hr⟩ | ⟨h9, hr⟩
  · refine gBrT (p := 8 ≤ s.2.1) (y := 26) (is := List.drop 7 mC26) (L := [.ref p0, .int p1, .int s.1, .int s.2.1]) (st := []) (μ := s.2.2) (t := 50) rfl h9 ?_
    obtain rfl := Option.some.inj hr
    exact hC (.ref p0) rfl (.int p1) rfl (.int s.2.1) rfl
  · refine gBrF (p := 8 ≤ s.2.1) (y := 26) (is := List.drop 7 mC26) (L := [.ref p0, .int p1, .int s.1, .int s.2.1]) (st := []) (μ := s.2.2) (t := 50) rfl h9 ?_
    refine mGo.steps 1 (c' := (26, List.drop 8 mC26, [.ref p0, .int p1, .int s.1, .int s.2.1], [.ref p0], s.2.2)) rfl ?_
    obtain ⟨h1, hr⟩ := mIf hr
    refine gGet (is := List.drop 9 mC26) (v := .ref (mP s.2.2 p0 0)) h1 rfl ?_
    refine mGo.steps 1 (c' := (26, List.drop 10 mC26, [.ref p0, .int p1, .int s.1, .int s.2.1], [.int s.2.1, .ref (mP s.2.2 p0 0)], s.2.2)) rfl ?_
    obtain ⟨h2, hr⟩ := mIf hr
    refine gAald (is := List.drop 11 mC26) h2 ?_
    obtain ⟨h3, hr⟩ := mIf hr
    refine gGet (is := List.drop 12 mC26) (v := .int (mI s.2.2 (mP s.2.2 (mP s.2.2 p0 0) (Int32.toNatClampNeg s.2.1)) 0)) h3 rfl ?_
    rcases mIte hr with ⟨h8, hr⟩ | ⟨h8, hr⟩
    · refine gBrT (p := (mI s.2.2 (mP s.2.2 (mP s.2.2 p0 0) (Int32.toNatClampNeg s.2.1)) 0) = 0) (y := 26) (is := List.drop 13 mC26) (L := [.ref p0, .int p1, .int s.1, .int s.2.1]) (st := []) (μ := s.2.2) (t := 44) rfl h8 ?_
      exact t26L4_25 p0 p1 s.2.2 s.1 s.2.1 hr hC
    · refine gBrF (p := (mI s.2.2 (mP s.2.2 (mP s.2.2 p0 0) (Int32.toNatClampNeg s.2.1)) 0) = 0) (y := 26) (is := List.drop 13 mC26) (L := [.ref p0, .int p1, .int s.1, .int s.2.1]) (st := []) (μ := s.2.2) (t := 44) rfl h8 ?_
      refine mGo.steps 3 (c' := (26, List.drop 16 mC26, [.ref p0, .int p1, .int s.1, .int s.2.1], [.int p1, .int s.2.1, .ref p0], s.2.2)) rfl ?_
      obtain ⟨q4, h5, hr⟩ := mBi hr
      refine gCall (z := 27) (n := 2) (f := 0) (kind := 1) (a := p0) (As := [.int s.2.1, .int p1]) (y := 26) (is := List.drop 17 mC26) (L := [.ref p0, .int p1, .int s.1, .int s.2.1]) (rest := []) (μ := s.2.2) rfl (by decide) (by decide) ⟨rfl, rfl⟩ rfl h1 (Nat.le_of_ble_eq_true rfl) (Nat.le_of_ble_eq_true rfl) (t27 h5) ?_
      rcases mIte hr with ⟨h7, hr⟩ | ⟨h7, hr⟩
      · refine gBrT (p := q4 = 0) (y := 26) (is := List.drop 18 mC26) (L := [.ref p0, .int p1, .int s.1, .int s.2.1]) (st := []) (μ := s.2.2) (t := 44) rfl h7 ?_
        exact t26L4_25 p0 p1 s.2.2 s.1 s.2.1 hr hC
      · refine gBrF (p := q4 = 0) (y := 26) (is := List.drop 18 mC26) (L := [.ref p0, .int p1, .int s.1, .int s.2.1]) (st := []) (μ := s.2.2) (t := 44) rfl h7 ?_
        refine mGo.steps 1 (c' := (26, List.drop 19 mC26, [.ref p0, .int p1, .int s.1, .int s.2.1], [.ref p0], s.2.2)) rfl ?_
        refine gGet (is := List.drop 20 mC26) (v := .ref (mP s.2.2 p0 0)) h1 rfl ?_
        refine mGo.steps 1 (c' := (26, List.drop 21 mC26, [.ref p0, .int p1, .int s.1, .int s.2.1], [.int s.2.1, .ref (mP s.2.2 p0 0)], s.2.2)) rfl ?_
        refine gAald (is := List.drop 22 mC26) h2 ?_
        refine mGo.steps 1 (c' := (26, List.drop 23 mC26, [.ref p0, .int p1, .int s.1, .int s.2.1], [.int 0, .ref (mP s.2.2 (mP s.2.2 p0 0) (Int32.toNatClampNeg s.2.1))], s.2.2)) rfl ?_
        replace hr := mBs hr
        refine gPut (is := List.drop 24 mC26) (μ' := mUI s.2.2 (mP s.2.2 (mP s.2.2 p0 0) (Int32.toNatClampNeg s.2.1)) 0 0) h3 (gZ (by decide)) ?_
        let μ6 : mM := mUI s.2.2 (mP s.2.2 (mP s.2.2 p0 0) (Int32.toNatClampNeg s.2.1)) 0 0
        refine mGo.steps 1 (c' := (26, List.drop 25 mC26, [.ref p0, .int p1, .int (s.1 + 1), .int s.2.1], [], μ6)) rfl ?_
        exact t26L4_25 p0 p1 μ6 (s.1 + 1) s.2.1 hr hC
theorem t26L4l (p0 : Nat) (p1 : Int32) {r : Option Value × mM} (n : Nat) (s : Int32 × Int32 × mM) (o : (Int32 × mM) ⊕ (Int32 × mM)) (hr : mLoop (s26L4 p0 p1) n s = some o) (hC : Sum.elim (fun x : Int32 × mM => ∀ (w0 : Value) (hw0 : mNotL w0 = true) (w1 : Value) (hw1 : mNotL w1 = true) (w3 : Value) (hw3 : mNotL w3 = true), mGo mG (26, List.drop 27 mC26, [w0, w1, .int x.1, w3], [], x.2) r) (fun y : (Int32 × mM) => r = (some (.int y.1), y.2)) o) : mGo mG (26, List.drop 4 mC26, [.ref p0, .int p1, .int s.1, .int s.2.1], [], s.2.2) r :=
  mLoop_go (Hd := (fun s' : Int32 × Int32 × mM => mGo mG (26, List.drop 4 mC26, [.ref p0, .int p1, .int s'.1, .int s'.2.1], [], s'.2.2) r)) (fun s o hb hC => t26L4 p0 p1 s o hb hC) n s o hr hC
def s26 (μ : mM) (a0 : Nat) (a1 : Int32) : Option (Int32 × mM) :=
  (mLoop (s26L4 a0 a1) 1000 (0, 1, μ)).bind fun o10 => Sum.elim (fun x11 => some (x11.1, x11.2)) (fun y12 => some y12) o10
set_option maxRecDepth 20000 in
theorem t26 {μ : mM} {a0 : Nat} {a1 : Int32} {o : (Int32 × mM)} (hr : s26 μ a0 a1 = some o) : mEv mG 26 [.ref a0, .int a1] μ (some (.int o.1)) (o.2) := by
  obtain ⟨r, hC⟩ : ∃ r : Option Value × mM, r = (some (.int o.1), o.2) := ⟨_, rfl⟩
  show mGo mG (26, List.drop 0 mC26, [.ref a0, .int a1, .retAddr 0, .retAddr 0], [], μ) (some (.int o.1), o.2)
  rw [← hC]
  unfold s26 at hr
  refine mGo.steps 4 (c' := (26, List.drop 4 mC26, [.ref a0, .int a1, .int 0, .int 1], [], μ)) rfl ?_
  obtain ⟨o10, h13, hr⟩ := mBi hr
  refine t26L4l a0 a1 1000 (0, 1, μ) o10 h13 ?_ 
  cases o10 with
  | inl x11 =>
    show ∀ (w0 : Value) (hw0 : mNotL w0 = true) (w1 : Value) (hw1 : mNotL w1 = true) (w3 : Value) (hw3 : mNotL w3 = true), mGo mG (26, List.drop 27 mC26, [w0, w1, .int x11.1, w3], [], x11.2) r
    intro w0 hw0 w1 hw1 w3 hw3
    replace hr : (_) = some _ := hr
    refine mGo.steps 1 (c' := (26, List.drop 28 mC26, [w0, w1, .int x11.1, w3], [.int x11.1], x11.2)) rfl ?_
    obtain rfl := Option.some.inj hr
    rw [show r = _ from hC]
    exact gIret rfl
  | inr y12 =>
    obtain rfl := Option.some.inj hr
    exact hC

/-! 29: TunnelFabric$Fabric.reserveOf(I)I -/
def s29L4_28 (μ : mM) (p0 : Nat) (p1 : Int32) (v2 : Int32) (v3 : Int32) : Option ((Int32 × Int32) ⊕ ((Int32) ⊕ Int32)) :=
  some (.inl (v2, v3 + 1))
set_option maxRecDepth 20000 in
theorem t29L4_28 (μ : mM) (p0 : Nat) (p1 : Int32) (v2 : Int32) (v3 : Int32) {o : ((Int32 × Int32) ⊕ ((Int32) ⊕ Int32))} {r : Option Value × mM} (hr : s29L4_28 μ p0 p1 v2 v3 = some o) (hC : Sum.elim (fun s' : Int32 × Int32 => mGo mG (29, List.drop 4 mC29, [.ref p0, .int p1, .int s'.1, .int s'.2], [], μ) r) (Sum.elim (fun x : Int32 => ∀ (w0 : Value) (hw0 : mNotL w0 = true) (w1 : Value) (hw1 : mNotL w1 = true) (w3 : Value) (hw3 : mNotL w3 = true), mGo mG (29, List.drop 30 mC29, [w0, w1, .int x, w3], [], μ) r) (fun y : Int32 => r = (some (.int y), μ))) o) : mGo mG (29, List.drop 28 mC29, [.ref p0, .int p1, .int v2, .int v3], [], μ) r := by
  unfold s29L4_28 at hr
  refine mGo.steps 2 (c' := (29, List.drop 4 mC29, [.ref p0, .int p1, .int v2, .int (v3 + 1)], [], μ)) rfl ?_
  obtain rfl := Option.some.inj hr
  exact hC
def s29L4 (μ : mM) (p0 : Nat) (p1 : Int32) (s : Int32 × Int32) : Option ((Int32 × Int32) ⊕ ((Int32) ⊕ Int32)) :=
  if 10 ≤ s.2 then (some (.inr (.inl s.1))) else (if (mS μ p0).1 = 1 then if (mS μ (mP μ p0 1)).1 = 20 + 6 ∧ mInb s.2 (mS μ (mP μ p0 1)).2 then if (mS μ (mP μ (mP μ p0 1) (Int32.toNatClampNeg s.2))).1 = 6 then (s80 μ (mP μ (mP μ p0 1) (Int32.toNatClampNeg s.2))).bind fun q4 => if q4 = 0 then (s29L4_28 μ p0 p1 s.1 s.2) else ((s79 μ (mP μ (mP μ p0 1) (Int32.toNatClampNeg s.2)) p1).bind fun q6 => if q6 = 0 then (s29L4_28 μ p0 p1 s.1 s.2) else (s29L4_28 μ p0 p1 (s.1 + (mI μ (mP μ (mP μ p0 1) (Int32.toNatClampNeg s.2)) 4)) s.2)) else none else none else none)
set_option maxRecDepth 20000 in
theorem t29L4 (μ : mM) (p0 : Nat) (p1 : Int32) {r : Option Value × mM} (s : Int32 × Int32) (o : ((Int32 × Int32) ⊕ ((Int32) ⊕ Int32))) (hr : s29L4 μ p0 p1 s = some o) (hC : Sum.elim (fun s' : Int32 × Int32 => mGo mG (29, List.drop 4 mC29, [.ref p0, .int p1, .int s'.1, .int s'.2], [], μ) r) (Sum.elim (fun x : Int32 => ∀ (w0 : Value) (hw0 : mNotL w0 = true) (w1 : Value) (hw1 : mNotL w1 = true) (w3 : Value) (hw3 : mNotL w3 = true), mGo mG (29, List.drop 30 mC29, [w0, w1, .int x, w3], [], μ) r) (fun y : Int32 => r = (some (.int y), μ))) o) : mGo mG (29, List.drop 4 mC29, [.ref p0, .int p1, .int s.1, .int s.2], [], μ) r := by
  unfold s29L4 at hr
  refine mGo.steps 2 (c' := (29, List.drop 6 mC29, [.ref p0, .int p1, .int s.1, .int s.2], [.int 10, .int s.2], μ)) rfl ?_
  rcases mIte hr with ⟨h10, hr⟩ | ⟨h10, hr⟩
  · refine gBrT (p := 10 ≤ s.2) (y := 29) (is := List.drop 7 mC29) (L := [.ref p0, .int p1, .int s.1, .int s.2]) (st := []) (μ := μ) (t := 53) rfl h10 ?_
    obtain rfl := Option.some.inj hr
    exact hC (.ref p0) rfl (.int p1) rfl (.int s.2) rfl
  · refine gBrF (p := 10 ≤ s.2) (y := 29) (is := List.drop 7 mC29) (L := [.ref p0, .int p1, .int s.1, .int s.2]) (st := []) (μ := μ) (t := 53) rfl h10 ?_
    refine mGo.steps 1 (c' := (29, List.drop 8 mC29, [.ref p0, .int p1, .int s.1, .int s.2], [.ref p0], μ)) rfl ?_
    obtain ⟨h1, hr⟩ := mIf hr
    refine gGet (is := List.drop 9 mC29) (v := .ref (mP μ p0 1)) h1 rfl ?_
    refine mGo.steps 1 (c' := (29, List.drop 10 mC29, [.ref p0, .int p1, .int s.1, .int s.2], [.int s.2, .ref (mP μ p0 1)], μ)) rfl ?_
    obtain ⟨h2, hr⟩ := mIf hr
    refine gAald (is := List.drop 11 mC29) h2 ?_
    obtain ⟨h3, hr⟩ := mIf hr
    obtain ⟨q4, h5, hr⟩ := mBi hr
    refine gCall (z := 80) (n := 0) (f := 0) (kind := 1) (a := (mP μ (mP μ p0 1) (Int32.toNatClampNeg s.2))) (As := []) (y := 29) (is := List.drop 12 mC29) (L := [.ref p0, .int p1, .int s.1, .int s.2]) (rest := []) (μ := μ) rfl (by decide) (by decide) ⟨rfl, rfl⟩ rfl h3 (Nat.le_of_ble_eq_true rfl) (Nat.le_of_ble_eq_true rfl) (t80 h5) ?_
    rcases mIte hr with ⟨h9, hr⟩ | ⟨h9, hr⟩
    · refine gBrT (p := q4 = 0) (y := 29) (is := List.drop 13 mC29) (L := [.ref p0, .int p1, .int s.1, .int s.2]) (st := []) (μ := μ) (t := 47) rfl h9 ?_
      exact t29L4_28 μ p0 p1 s.1 s.2 hr hC
    · refine gBrF (p := q4 = 0) (y := 29) (is := List.drop 13 mC29) (L := [.ref p0, .int p1, .int s.1, .int s.2]) (st := []) (μ := μ) (t := 47) rfl h9 ?_
      refine mGo.steps 1 (c' := (29, List.drop 14 mC29, [.ref p0, .int p1, .int s.1, .int s.2], [.ref p0], μ)) rfl ?_
      refine gGet (is := List.drop 15 mC29) (v := .ref (mP μ p0 1)) h1 rfl ?_
      refine mGo.steps 1 (c' := (29, List.drop 16 mC29, [.ref p0, .int p1, .int s.1, .int s.2], [.int s.2, .ref (mP μ p0 1)], μ)) rfl ?_
      refine gAald (is := List.drop 17 mC29) h2 ?_
      refine mGo.steps 1 (c' := (29, List.drop 18 mC29, [.ref p0, .int p1, .int s.1, .int s.2], [.int p1, .ref (mP μ (mP μ p0 1) (Int32.toNatClampNeg s.2))], μ)) rfl ?_
      obtain ⟨q6, h7, hr⟩ := mBi hr
      refine gCall (z := 79) (n := 1) (f := 0) (kind := 1) (a := (mP μ (mP μ p0 1) (Int32.toNatClampNeg s.2))) (As := [.int p1]) (y := 29) (is := List.drop 19 mC29) (L := [.ref p0, .int p1, .int s.1, .int s.2]) (rest := []) (μ := μ) rfl (by decide) (by decide) ⟨rfl, rfl⟩ rfl h3 (Nat.le_of_ble_eq_true rfl) (Nat.le_of_ble_eq_true rfl) (t79 h7) ?_
      rcases mIte hr with ⟨h8, hr⟩ | ⟨h8, hr⟩
      · refine gBrT (p := q6 = 0) (y := 29) (is := List.drop 20 mC29) (L := [.ref p0, .int p1, .int s.1, .int s.2]) (st := []) (μ := μ) (t := 47) rfl h8 ?_
        exact t29L4_28 μ p0 p1 s.1 s.2 hr hC
      · refine gBrF (p := q6 = 0) (y := 29) (is := List.drop 20 mC29) (L := [.ref p0, .int p1, .int s.1, .int s.2]) (st := []) (μ := μ) (t := 47) rfl h8 ?_
        refine mGo.steps 2 (c' := (29, List.drop 22 mC29, [.ref p0, .int p1, .int s.1, .int s.2], [.ref p0, .int s.1], μ)) rfl ?_
        refine gGet (is := List.drop 23 mC29) (v := .ref (mP μ p0 1)) h1 rfl ?_
        refine mGo.steps 1 (c' := (29, List.drop 24 mC29, [.ref p0, .int p1, .int s.1, .int s.2], [.int s.2, .ref (mP μ p0 1), .int s.1], μ)) rfl ?_
        refine gAald (is := List.drop 25 mC29) h2 ?_
        refine gGet (is := List.drop 26 mC29) (v := .int (mI μ (mP μ (mP μ p0 1) (Int32.toNatClampNeg s.2)) 4)) h3 rfl ?_
        refine mGo.steps 2 (c' := (29, List.drop 28 mC29, [.ref p0, .int p1, .int (s.1 + (mI μ (mP μ (mP μ p0 1) (Int32.toNatClampNeg s.2)) 4)), .int s.2], [], μ)) rfl ?_
        exact t29L4_28 μ p0 p1 (s.1 + (mI μ (mP μ (mP μ p0 1) (Int32.toNatClampNeg s.2)) 4)) s.2 hr hC
theorem t29L4l (μ : mM) (p0 : Nat) (p1 : Int32) {r : Option Value × mM} (n : Nat) (s : Int32 × Int32) (o : (Int32) ⊕ Int32) (hr : mLoop (s29L4 μ p0 p1) n s = some o) (hC : Sum.elim (fun x : Int32 => ∀ (w0 : Value) (hw0 : mNotL w0 = true) (w1 : Value) (hw1 : mNotL w1 = true) (w3 : Value) (hw3 : mNotL w3 = true), mGo mG (29, List.drop 30 mC29, [w0, w1, .int x, w3], [], μ) r) (fun y : Int32 => r = (some (.int y), μ)) o) : mGo mG (29, List.drop 4 mC29, [.ref p0, .int p1, .int s.1, .int s.2], [], μ) r :=
  mLoop_go (Hd := (fun s' : Int32 × Int32 => mGo mG (29, List.drop 4 mC29, [.ref p0, .int p1, .int s'.1, .int s'.2], [], μ) r)) (fun s o hb hC => t29L4 μ p0 p1 s o hb hC) n s o hr hC
def s29 (μ : mM) (a0 : Nat) (a1 : Int32) : Option Int32 :=
  (mLoop (s29L4 μ a0 a1) 1000 (0, 0)).bind fun o11 => Sum.elim (fun x12 => some x12) (fun y13 => some y13) o11
set_option maxRecDepth 20000 in
theorem t29 {μ : mM} {a0 : Nat} {a1 : Int32} {o : Int32} (hr : s29 μ a0 a1 = some o) : mEv mG 29 [.ref a0, .int a1] μ (some (.int o)) (μ) := by
  obtain ⟨r, hC⟩ : ∃ r : Option Value × mM, r = (some (.int o), μ) := ⟨_, rfl⟩
  show mGo mG (29, List.drop 0 mC29, [.ref a0, .int a1, .retAddr 0, .retAddr 0], [], μ) (some (.int o), μ)
  rw [← hC]
  unfold s29 at hr
  refine mGo.steps 4 (c' := (29, List.drop 4 mC29, [.ref a0, .int a1, .int 0, .int 0], [], μ)) rfl ?_
  obtain ⟨o11, h14, hr⟩ := mBi hr
  refine t29L4l μ a0 a1 1000 (0, 0) o11 h14 ?_ 
  cases o11 with
  | inl x12 =>
    show ∀ (w0 : Value) (hw0 : mNotL w0 = true) (w1 : Value) (hw1 : mNotL w1 = true) (w3 : Value) (hw3 : mNotL w3 = true), mGo mG (29, List.drop 30 mC29, [w0, w1, .int x12, w3], [], μ) r
    intro w0 hw0 w1 hw1 w3 hw3
    replace hr : (_) = some _ := hr
    refine mGo.steps 1 (c' := (29, List.drop 31 mC29, [w0, w1, .int x12, w3], [.int x12], μ)) rfl ?_
    obtain rfl := Option.some.inj hr
    rw [show r = _ from hC]
    exact gIret rfl
  | inr y13 =>
    obtain rfl := Option.some.inj hr
    exact hC

/-! 54: TunnelFabric$Link.limit()I -/
def s54 (μ : mM) (a0 : Nat) : Option Int32 :=
  if (mS μ a0).1 = 2 then (s53 μ a0 0).bind fun q2 => some (q2 - 1) else none
set_option maxRecDepth 20000 in
theorem t54 {μ : mM} {a0 : Nat} {o : Int32} (hr : s54 μ a0 = some o) : mEv mG 54 [.ref a0] μ (some (.int o)) (μ) := by
  obtain ⟨r, hC⟩ : ∃ r : Option Value × mM, r = (some (.int o), μ) := ⟨_, rfl⟩
  show mGo mG (54, List.drop 0 mC54, [.ref a0], [], μ) (some (.int o), μ)
  rw [← hC]
  unfold s54 at hr
  refine mGo.steps 2 (c' := (54, List.drop 2 mC54, [.ref a0], [.int 0, .ref a0], μ)) rfl ?_
  obtain ⟨h1, hr⟩ := mIf hr
  obtain ⟨q2, h3, hr⟩ := mBi hr
  refine gCall (z := 53) (n := 1) (f := 0) (kind := 1) (a := a0) (As := [.int 0]) (y := 54) (is := List.drop 3 mC54) (L := [.ref a0]) (rest := []) (μ := μ) rfl (by decide) (by decide) ⟨rfl, rfl⟩ rfl h1 (Nat.le_of_ble_eq_true rfl) (Nat.le_of_ble_eq_true rfl) (t53 h3) ?_
  refine mGo.steps 2 (c' := (54, List.drop 5 mC54, [.ref a0], [.int (q2 - 1)], μ)) rfl ?_
  obtain rfl := Option.some.inj hr
  rw [show r = _ from hC]
  exact gIret rfl

/-! 30: TunnelFabric$Fabric.spareOf(I)I -/
def s30 (μ : mM) (a0 : Nat) (a1 : Int32) : Option Int32 :=
  if (mS μ a0).1 = 1 then (s18 μ a0 a1).bind fun q2 => if (mS μ q2).1 = 4 then if (mS μ (mP μ q2 6)).1 = 2 then (s54 μ (mP μ q2 6)).bind fun q6 => (s29 μ a0 a1).bind fun q8 => some (q6 - q8) else none else none else none
set_option maxRecDepth 20000 in
theorem t30 {μ : mM} {a0 : Nat} {a1 : Int32} {o : Int32} (hr : s30 μ a0 a1 = some o) : mEv mG 30 [.ref a0, .int a1] μ (some (.int o)) (μ) := by
  obtain ⟨r, hC⟩ : ∃ r : Option Value × mM, r = (some (.int o), μ) := ⟨_, rfl⟩
  show mGo mG (30, List.drop 0 mC30, [.ref a0, .int a1], [], μ) (some (.int o), μ)
  rw [← hC]
  unfold s30 at hr
  refine mGo.steps 2 (c' := (30, List.drop 2 mC30, [.ref a0, .int a1], [.int a1, .ref a0], μ)) rfl ?_
  obtain ⟨h1, hr⟩ := mIf hr
  obtain ⟨q2, h3, hr⟩ := mBi hr
  refine gCall (z := 18) (n := 1) (f := 0) (kind := 1) (a := a0) (As := [.int a1]) (y := 30) (is := List.drop 3 mC30) (L := [.ref a0, .int a1]) (rest := []) (μ := μ) rfl (by decide) (by decide) ⟨rfl, rfl⟩ rfl h1 (Nat.le_of_ble_eq_true rfl) (Nat.le_of_ble_eq_true rfl) (t18 h3) ?_
  obtain ⟨h4, hr⟩ := mIf hr
  refine gGet (is := List.drop 4 mC30) (v := .ref (mP μ q2 6)) h4 rfl ?_
  obtain ⟨h5, hr⟩ := mIf hr
  obtain ⟨q6, h7, hr⟩ := mBi hr
  refine gCall (z := 54) (n := 0) (f := 0) (kind := 1) (a := (mP μ q2 6)) (As := []) (y := 30) (is := List.drop 5 mC30) (L := [.ref a0, .int a1]) (rest := []) (μ := μ) rfl (by decide) (by decide) ⟨rfl, rfl⟩ rfl h5 (Nat.le_of_ble_eq_true rfl) (Nat.le_of_ble_eq_true rfl) (t54 h7) ?_
  refine mGo.steps 2 (c' := (30, List.drop 7 mC30, [.ref a0, .int a1], [.int a1, .ref a0, .int q6], μ)) rfl ?_
  obtain ⟨q8, h9, hr⟩ := mBi hr
  refine gCall (z := 29) (n := 1) (f := 0) (kind := 1) (a := a0) (As := [.int a1]) (y := 30) (is := List.drop 8 mC30) (L := [.ref a0, .int a1]) (rest := [.int q6]) (μ := μ) rfl (by decide) (by decide) ⟨rfl, rfl⟩ rfl h1 (Nat.le_of_ble_eq_true rfl) (Nat.le_of_ble_eq_true rfl) (t29 h9) ?_
  refine mGo.steps 1 (c' := (30, List.drop 9 mC30, [.ref a0, .int a1], [.int (q6 - q8)], μ)) rfl ?_
  obtain rfl := Option.some.inj hr
  rw [show r = _ from hC]
  exact gIret rfl

/-! 31: TunnelFabric$Fabric.roomTo(I)I -/
def s31L6 (μ : mM) (p0 : Nat) (s : Int32 × Int32 × Int32) : Option ((Int32 × Int32 × Int32) ⊕ ((Int32) ⊕ Int32)) :=
  if 4 ≤ s.2.2 then (some (.inr (.inl s.1))) else (if s.2.1 = 0 then (some (.inr (.inl s.1))) else (if (mS μ p0).1 = 1 then (s30 μ p0 s.2.1).bind fun q2 => (s18 μ p0 s.2.1).bind fun q4 => if (mS μ q4).1 = 4 then some (.inl (mMin s.1 q2, mI μ q4 3, s.2.2 + 1)) else none else none))
set_option maxRecDepth 20000 in
theorem t31L6 (μ : mM) (p0 : Nat) {r : Option Value × mM} (s : Int32 × Int32 × Int32) (o : ((Int32 × Int32 × Int32) ⊕ ((Int32) ⊕ Int32))) (hr : s31L6 μ p0 s = some o) (hC : Sum.elim (fun s' : Int32 × Int32 × Int32 => ∀ (w1 : Value) (hw1 : mNotL w1 = true), mGo mG (31, List.drop 6 mC31, [.ref p0, w1, .int s'.1, .int s'.2.1, .int s'.2.2], [], μ) r) (Sum.elim (fun x : Int32 => ∀ (w0 : Value) (hw0 : mNotL w0 = true) (w1 : Value) (hw1 : mNotL w1 = true) (w3 : Value) (hw3 : mNotL w3 = true) (w4 : Value) (hw4 : mNotL w4 = true), mGo mG (31, List.drop 24 mC31, [w0, w1, .int x, w3, w4], [], μ) r) (fun y : Int32 => r = (some (.int y), μ))) o) : ∀ (w1 : Value) (hw1 : mNotL w1 = true), mGo mG (31, List.drop 6 mC31, [.ref p0, w1, .int s.1, .int s.2.1, .int s.2.2], [], μ) r := by
  intro w1 hw1
  unfold s31L6 at hr
  refine mGo.steps 2 (c' := (31, List.drop 8 mC31, [.ref p0, w1, .int s.1, .int s.2.1, .int s.2.2], [.int 4, .int s.2.2], μ)) rfl ?_
  rcases mIte hr with ⟨h8, hr⟩ | ⟨h8, hr⟩
  · refine gBrT (p := 4 ≤ s.2.2) (y := 31) (is := List.drop 9 mC31) (L := [.ref p0, w1, .int s.1, .int s.2.1, .int s.2.2]) (st := []) (μ := μ) (t := 43) rfl h8 ?_
    obtain rfl := Option.some.inj hr
    exact hC (.ref p0) rfl w1 hw1 (.int s.2.1) rfl (.int s.2.2) rfl
  · refine gBrF (p := 4 ≤ s.2.2) (y := 31) (is := List.drop 9 mC31) (L := [.ref p0, w1, .int s.1, .int s.2.1, .int s.2.2]) (st := []) (μ := μ) (t := 43) rfl h8 ?_
    refine mGo.steps 1 (c' := (31, List.drop 10 mC31, [.ref p0, w1, .int s.1, .int s.2.1, .int s.2.2], [.int s.2.1], μ)) rfl ?_
    rcases mIte hr with ⟨h7, hr⟩ | ⟨h7, hr⟩
    · refine gBrT (p := s.2.1 = 0) (y := 31) (is := List.drop 11 mC31) (L := [.ref p0, w1, .int s.1, .int s.2.1, .int s.2.2]) (st := []) (μ := μ) (t := 43) rfl h7 ?_
      obtain rfl := Option.some.inj hr
      exact hC (.ref p0) rfl w1 hw1 (.int s.2.1) rfl (.int s.2.2) rfl
    · refine gBrF (p := s.2.1 = 0) (y := 31) (is := List.drop 11 mC31) (L := [.ref p0, w1, .int s.1, .int s.2.1, .int s.2.2]) (st := []) (μ := μ) (t := 43) rfl h7 ?_
      refine mGo.steps 3 (c' := (31, List.drop 14 mC31, [.ref p0, w1, .int s.1, .int s.2.1, .int s.2.2], [.int s.2.1, .ref p0, .int s.1], μ)) rfl ?_
      obtain ⟨h1, hr⟩ := mIf hr
      obtain ⟨q2, h3, hr⟩ := mBi hr
      refine gCall (z := 30) (n := 1) (f := 0) (kind := 1) (a := p0) (As := [.int s.2.1]) (y := 31) (is := List.drop 15 mC31) (L := [.ref p0, w1, .int s.1, .int s.2.1, .int s.2.2]) (rest := [.int s.1]) (μ := μ) rfl (by decide) (by decide) ⟨rfl, rfl⟩ rfl h1 (Nat.le_of_ble_eq_true rfl) (Nat.le_of_ble_eq_true rfl) (t30 h3) ?_
      refine mGo.steps 1 (c' := (31, List.drop 16 mC31, [.ref p0, w1, .int s.1, .int s.2.1, .int s.2.2], [.int (mMin s.1 q2)], μ)) rfl ?_
      refine gSt1 (L := [.ref p0, w1, .int s.1, .int s.2.1, .int s.2.2]) (q := 2) (w := .int (mMin s.1 q2)) (is := List.drop 17 mC31) (st := []) (μ := μ) rfl (Nat.le_of_ble_eq_true rfl) hw1 ?_
      refine mGo.steps 2 (c' := (31, List.drop 19 mC31, [.ref p0, w1, .int (mMin s.1 q2), .int s.2.1, .int s.2.2], [.int s.2.1, .ref p0], μ)) rfl ?_
      obtain ⟨q4, h5, hr⟩ := mBi hr
      refine gCall (z := 18) (n := 1) (f := 0) (kind := 1) (a := p0) (As := [.int s.2.1]) (y := 31) (is := List.drop 20 mC31) (L := [.ref p0, w1, .int (mMin s.1 q2), .int s.2.1, .int s.2.2]) (rest := []) (μ := μ) rfl (by decide) (by decide) ⟨rfl, rfl⟩ rfl h1 (Nat.le_of_ble_eq_true rfl) (Nat.le_of_ble_eq_true rfl) (t18 h5) ?_
      obtain ⟨h6, hr⟩ := mIf hr
      refine gGet (is := List.drop 21 mC31) (v := .int (mI μ q4 3)) h6 rfl ?_
      refine mGo.steps 3 (c' := (31, List.drop 6 mC31, [.ref p0, w1, .int (mMin s.1 q2), .int (mI μ q4 3), .int (s.2.2 + 1)], [], μ)) rfl ?_
      obtain rfl := Option.some.inj hr
      exact hC w1 hw1
theorem t31L6l (μ : mM) (p0 : Nat) {r : Option Value × mM} (n : Nat) (s : Int32 × Int32 × Int32) (o : (Int32) ⊕ Int32) (hr : mLoop (s31L6 μ p0) n s = some o) (hC : Sum.elim (fun x : Int32 => ∀ (w0 : Value) (hw0 : mNotL w0 = true) (w1 : Value) (hw1 : mNotL w1 = true) (w3 : Value) (hw3 : mNotL w3 = true) (w4 : Value) (hw4 : mNotL w4 = true), mGo mG (31, List.drop 24 mC31, [w0, w1, .int x, w3, w4], [], μ) r) (fun y : Int32 => r = (some (.int y), μ)) o) : ∀ (w1 : Value) (hw1 : mNotL w1 = true), mGo mG (31, List.drop 6 mC31, [.ref p0, w1, .int s.1, .int s.2.1, .int s.2.2], [], μ) r :=
  mLoop_go (Hd := (fun s' : Int32 × Int32 × Int32 => ∀ (w1 : Value) (hw1 : mNotL w1 = true), mGo mG (31, List.drop 6 mC31, [.ref p0, w1, .int s'.1, .int s'.2.1, .int s'.2.2], [], μ) r)) (fun s o hb hC => t31L6 μ p0 s o hb hC) n s o hr hC
def s31_24 (μ : mM) (a0 : Nat) (a1 : Int32) (v2 : Int32) : Option Int32 :=
  some v2
set_option maxRecDepth 20000 in
theorem t31_24 (μ : mM) (a0 : Nat) (a1 : Int32) (v2 : Int32) (w0 : Value) (hw0 : mNotL w0 = true) (w1 : Value) (hw1 : mNotL w1 = true) (w3 : Value) (hw3 : mNotL w3 = true) (w4 : Value) (hw4 : mNotL w4 = true) {o : Int32} {r : Option Value × mM} (hr : s31_24 μ a0 a1 v2 = some o) (hC : r = (some (.int o), μ)) : mGo mG (31, List.drop 24 mC31, [w0, w1, .int v2, w3, w4], [], μ) r := by
  unfold s31_24 at hr
  refine mGo.steps 1 (c' := (31, List.drop 25 mC31, [w0, w1, .int v2, w3, w4], [.int v2], μ)) rfl ?_
  obtain rfl := Option.some.inj hr
  rw [show r = _ from hC]
  exact gIret rfl
def s31 (μ : mM) (a0 : Nat) (a1 : Int32) : Option Int32 :=
  (mLoop (s31L6 μ a0) 1000 (12, a1, 0)).bind fun o9 => Sum.elim (fun x10 => s31_24 μ a0 a1 x10) (fun y11 => some y11) o9
set_option maxRecDepth 20000 in
theorem t31 {μ : mM} {a0 : Nat} {a1 : Int32} {o : Int32} (hr : s31 μ a0 a1 = some o) : mEv mG 31 [.ref a0, .int a1] μ (some (.int o)) (μ) := by
  obtain ⟨r, hC⟩ : ∃ r : Option Value × mM, r = (some (.int o), μ) := ⟨_, rfl⟩
  show mGo mG (31, List.drop 0 mC31, [.ref a0, .int a1, .retAddr 0, .retAddr 0, .retAddr 0], [], μ) (some (.int o), μ)
  rw [← hC]
  unfold s31 at hr
  refine mGo.steps 6 (c' := (31, List.drop 6 mC31, [.ref a0, .int a1, .int 12, .int a1, .int 0], [], μ)) rfl ?_
  obtain ⟨o9, h12, hr⟩ := mBi hr
  refine t31L6l μ a0 1000 (12, a1, 0) o9 h12 ?_ (.int a1) rfl
  cases o9 with
  | inl x10 =>
    show ∀ (w0 : Value) (hw0 : mNotL w0 = true) (w1 : Value) (hw1 : mNotL w1 = true) (w3 : Value) (hw3 : mNotL w3 = true) (w4 : Value) (hw4 : mNotL w4 = true), mGo mG (31, List.drop 24 mC31, [w0, w1, .int x10, w3, w4], [], μ) r
    intro w0 hw0 w1 hw1 w3 hw3 w4 hw4
    replace hr : (_) = some _ := hr
    exact t31_24 μ a0 a1 x10 w0 hw0 w1 hw1 w3 hw3 w4 hw4 hr hC
  | inr y11 =>
    obtain rfl := Option.some.inj hr
    exact hC

/-! 137: TunnelFabric.narrowLimit(I)I -/
def s137 (μ : mM) (a0 : Int32) : Option Int32 :=
  (s136 μ a0).bind fun q1 => some ((q1 * 2) - 1)
set_option maxRecDepth 20000 in
theorem t137 {μ : mM} {a0 : Int32} {o : Int32} (hr : s137 μ a0 = some o) : mEv mG 137 [.int a0] μ (some (.int o)) (μ) := by
  obtain ⟨r, hC⟩ : ∃ r : Option Value × mM, r = (some (.int o), μ) := ⟨_, rfl⟩
  show mGo mG (137, List.drop 0 mC137, [.int a0], [], μ) (some (.int o), μ)
  rw [← hC]
  unfold s137 at hr
  refine mGo.steps 1 (c' := (137, List.drop 1 mC137, [.int a0], [.int a0], μ)) rfl ?_
  obtain ⟨q1, h2, hr⟩ := mBi hr
  refine mGo.call (z := 136) (as := [.int a0]) (y := 137) (is := List.drop 2 mC137) (L := [.int a0]) (st := []) (μ := μ) rfl (t136 h2) ?_
  refine mGo.steps 4 (c' := (137, List.drop 6 mC137, [.int a0], [.int ((q1 * 2) - 1)], μ)) rfl ?_
  obtain rfl := Option.some.inj hr
  rw [show r = _ from hC]
  exact gIret rfl

/-! 32: TunnelFabric$Fabric.roomOfScreenAt(II)I -/
def s32 (μ : mM) (a0 : Nat) (a1 : Int32) (a2 : Int32) : Option Int32 :=
  if (mS μ a0).1 = 1 then (s31 μ a0 a1).bind fun q2 => (s18 μ a0 a1).bind fun q4 => if (mS μ q4).1 = 4 then (s137 μ (mMin a2 (mI μ q4 2))).bind fun q7 => some (mMin q2 q7) else none else none
set_option maxRecDepth 20000 in
theorem t32 {μ : mM} {a0 : Nat} {a1 : Int32} {a2 : Int32} {o : Int32} (hr : s32 μ a0 a1 a2 = some o) : mEv mG 32 [.ref a0, .int a1, .int a2] μ (some (.int o)) (μ) := by
  obtain ⟨r, hC⟩ : ∃ r : Option Value × mM, r = (some (.int o), μ) := ⟨_, rfl⟩
  show mGo mG (32, List.drop 0 mC32, [.ref a0, .int a1, .int a2], [], μ) (some (.int o), μ)
  rw [← hC]
  unfold s32 at hr
  refine mGo.steps 2 (c' := (32, List.drop 2 mC32, [.ref a0, .int a1, .int a2], [.int a1, .ref a0], μ)) rfl ?_
  obtain ⟨h1, hr⟩ := mIf hr
  obtain ⟨q2, h3, hr⟩ := mBi hr
  refine gCall (z := 31) (n := 1) (f := 0) (kind := 1) (a := a0) (As := [.int a1]) (y := 32) (is := List.drop 3 mC32) (L := [.ref a0, .int a1, .int a2]) (rest := []) (μ := μ) rfl (by decide) (by decide) ⟨rfl, rfl⟩ rfl h1 (Nat.le_of_ble_eq_true rfl) (Nat.le_of_ble_eq_true rfl) (t31 h3) ?_
  refine mGo.steps 3 (c' := (32, List.drop 6 mC32, [.ref a0, .int a1, .int a2], [.int a1, .ref a0, .int a2, .int q2], μ)) rfl ?_
  obtain ⟨q4, h5, hr⟩ := mBi hr
  refine gCall (z := 18) (n := 1) (f := 0) (kind := 1) (a := a0) (As := [.int a1]) (y := 32) (is := List.drop 7 mC32) (L := [.ref a0, .int a1, .int a2]) (rest := [.int a2, .int q2]) (μ := μ) rfl (by decide) (by decide) ⟨rfl, rfl⟩ rfl h1 (Nat.le_of_ble_eq_true rfl) (Nat.le_of_ble_eq_true rfl) (t18 h5) ?_
  obtain ⟨h6, hr⟩ := mIf hr
  refine gGet (is := List.drop 8 mC32) (v := .int (mI μ q4 2)) h6 rfl ?_
  refine mGo.steps 1 (c' := (32, List.drop 9 mC32, [.ref a0, .int a1, .int a2], [.int (mMin a2 (mI μ q4 2)), .int q2], μ)) rfl ?_
  obtain ⟨q7, h8, hr⟩ := mBi hr
  refine mGo.call (z := 137) (as := [.int (mMin a2 (mI μ q4 2))]) (y := 32) (is := List.drop 10 mC32) (L := [.ref a0, .int a1, .int a2]) (st := [.int q2]) (μ := μ) rfl (t137 h8) ?_
  refine mGo.steps 1 (c' := (32, List.drop 11 mC32, [.ref a0, .int a1, .int a2], [.int (mMin q2 q7)], μ)) rfl ?_
  obtain rfl := Option.some.inj hr
  rw [show r = _ from hC]
  exact gIret rfl

/-! 33: TunnelFabric$Fabric.tightestLink(LTunnelFabric$Way;)I -/
def s33L6_30 (μ : mM) (p0 : Nat) (p1 : Nat) (v2 : Int32) (v3 : Int32) (v4 : Int32) : Option ((Int32 × Int32 × Int32) ⊕ ((Int32) ⊕ Int32)) :=
  some (.inl (v2, v3, v4 + 1))
set_option maxRecDepth 20000 in
theorem t33L6_30 (μ : mM) (p0 : Nat) (p1 : Nat) (v2 : Int32) (v3 : Int32) (v4 : Int32) (w5 : Value) (hw5 : mNotL w5 = true) {o : ((Int32 × Int32 × Int32) ⊕ ((Int32) ⊕ Int32))} {r : Option Value × mM} (hr : s33L6_30 μ p0 p1 v2 v3 v4 = some o) (hC : Sum.elim (fun s' : Int32 × Int32 × Int32 => ∀ (w5 : Value) (hw5 : mNotL w5 = true), mGo mG (33, List.drop 6 mC33, [.ref p0, .ref p1, .int s'.1, .int s'.2.1, .int s'.2.2, w5], [], μ) r) (Sum.elim (fun x : Int32 => ∀ (w0 : Value) (hw0 : mNotL w0 = true) (w1 : Value) (hw1 : mNotL w1 = true) (w3 : Value) (hw3 : mNotL w3 = true) (w4 : Value) (hw4 : mNotL w4 = true) (w5 : Value) (hw5 : mNotL w5 = true), mGo mG (33, List.drop 32 mC33, [w0, w1, .int x, w3, w4, w5], [], μ) r) (fun y : Int32 => r = (some (.int y), μ))) o) : mGo mG (33, List.drop 30 mC33, [.ref p0, .ref p1, .int v2, .int v3, .int v4, w5], [], μ) r := by
  unfold s33L6_30 at hr
  refine mGo.steps 2 (c' := (33, List.drop 6 mC33, [.ref p0, .ref p1, .int v2, .int v3, .int (v4 + 1), w5], [], μ)) rfl ?_
  obtain rfl := Option.some.inj hr
  exact hC w5 hw5
def s33L6_23 (μ : mM) (p0 : Nat) (p1 : Nat) (v4 : Int32) (v5 : Int32) : Option ((Int32 × Int32 × Int32) ⊕ ((Int32) ⊕ Int32)) :=
  if (mS μ p1).1 = 7 then if (mS μ (mP μ p1 4)).1 = 10 ∧ mInb v4 (mS μ (mP μ p1 4)).2 then s33L6_30 μ p0 p1 (mI μ (mP μ p1 4) (Int32.toNatClampNeg v4)) v5 v4 else none else none
set_option maxRecDepth 20000 in
theorem t33L6_23 (μ : mM) (p0 : Nat) (p1 : Nat) (v4 : Int32) (v5 : Int32) (w2 : Value) (hw2 : mNotL w2 = true) (w3 : Value) (hw3 : mNotL w3 = true) {o : ((Int32 × Int32 × Int32) ⊕ ((Int32) ⊕ Int32))} {r : Option Value × mM} (hr : s33L6_23 μ p0 p1 v4 v5 = some o) (hC : Sum.elim (fun s' : Int32 × Int32 × Int32 => ∀ (w5 : Value) (hw5 : mNotL w5 = true), mGo mG (33, List.drop 6 mC33, [.ref p0, .ref p1, .int s'.1, .int s'.2.1, .int s'.2.2, w5], [], μ) r) (Sum.elim (fun x : Int32 => ∀ (w0 : Value) (hw0 : mNotL w0 = true) (w1 : Value) (hw1 : mNotL w1 = true) (w3 : Value) (hw3 : mNotL w3 = true) (w4 : Value) (hw4 : mNotL w4 = true) (w5 : Value) (hw5 : mNotL w5 = true), mGo mG (33, List.drop 32 mC33, [w0, w1, .int x, w3, w4, w5], [], μ) r) (fun y : Int32 => r = (some (.int y), μ))) o) : mGo mG (33, List.drop 23 mC33, [.ref p0, .ref p1, w2, w3, .int v4, .int v5], [], μ) r := by
  unfold s33L6_23 at hr
  refine mGo.steps 1 (c' := (33, List.drop 24 mC33, [.ref p0, .ref p1, w2, w3, .int v4, .int v5], [.ref p1], μ)) rfl ?_
  obtain ⟨h6, hr⟩ := mIf hr
  refine gGet (is := List.drop 25 mC33) (v := .ref (mP μ p1 4)) h6 rfl ?_
  refine mGo.steps 1 (c' := (33, List.drop 26 mC33, [.ref p0, .ref p1, w2, w3, .int v4, .int v5], [.int v4, .ref (mP μ p1 4)], μ)) rfl ?_
  obtain ⟨h7, hr⟩ := mIf hr
  refine gIald (is := List.drop 27 mC33) h7 ?_
  refine mGo.steps 3 (c' := (33, List.drop 30 mC33, [.ref p0, .ref p1, .int (mI μ (mP μ p1 4) (Int32.toNatClampNeg v4)), .int v5, .int v4, .int v5], [], μ)) rfl ?_
  exact t33L6_30 μ p0 p1 (mI μ (mP μ p1 4) (Int32.toNatClampNeg v4)) v5 v4 (.int v5) rfl hr hC
def s33L6 (μ : mM) (p0 : Nat) (p1 : Nat) (s : Int32 × Int32 × Int32) : Option ((Int32 × Int32 × Int32) ⊕ ((Int32) ⊕ Int32)) :=
  if (mS μ p1).1 = 7 then if (mI μ p1 1) ≤ s.2.2 then (some (.inr (.inl s.1))) else (if (mS μ (mP μ p1 4)).1 = 10 ∧ mInb s.2.2 (mS μ (mP μ p1 4)).2 then if (mS μ p0).1 = 1 then (s30 μ p0 (mI μ (mP μ p1 4) (Int32.toNatClampNeg s.2.2))).bind fun q4 => if s.1 = (-1) then (s33L6_23 μ p0 p1 s.2.2 q4) else (if s.2.1 ≤ q4 then (s33L6_30 μ p0 p1 s.1 s.2.1 s.2.2) else (s33L6_23 μ p0 p1 s.2.2 q4)) else none else none) else none
set_option maxRecDepth 20000 in
theorem t33L6 (μ : mM) (p0 : Nat) (p1 : Nat) {r : Option Value × mM} (s : Int32 × Int32 × Int32) (o : ((Int32 × Int32 × Int32) ⊕ ((Int32) ⊕ Int32))) (hr : s33L6 μ p0 p1 s = some o) (hC : Sum.elim (fun s' : Int32 × Int32 × Int32 => ∀ (w5 : Value) (hw5 : mNotL w5 = true), mGo mG (33, List.drop 6 mC33, [.ref p0, .ref p1, .int s'.1, .int s'.2.1, .int s'.2.2, w5], [], μ) r) (Sum.elim (fun x : Int32 => ∀ (w0 : Value) (hw0 : mNotL w0 = true) (w1 : Value) (hw1 : mNotL w1 = true) (w3 : Value) (hw3 : mNotL w3 = true) (w4 : Value) (hw4 : mNotL w4 = true) (w5 : Value) (hw5 : mNotL w5 = true), mGo mG (33, List.drop 32 mC33, [w0, w1, .int x, w3, w4, w5], [], μ) r) (fun y : Int32 => r = (some (.int y), μ))) o) : ∀ (w5 : Value) (hw5 : mNotL w5 = true), mGo mG (33, List.drop 6 mC33, [.ref p0, .ref p1, .int s.1, .int s.2.1, .int s.2.2, w5], [], μ) r := by
  intro w5 hw5
  unfold s33L6 at hr
  refine mGo.steps 2 (c' := (33, List.drop 8 mC33, [.ref p0, .ref p1, .int s.1, .int s.2.1, .int s.2.2, w5], [.ref p1, .int s.2.2], μ)) rfl ?_
  obtain ⟨h1, hr⟩ := mIf hr
  refine gGet (is := List.drop 9 mC33) (v := .int (mI μ p1 1)) h1 rfl ?_
  rcases mIte hr with ⟨h10, hr⟩ | ⟨h10, hr⟩
  · refine gBrT (p := (mI μ p1 1) ≤ s.2.2) (y := 33) (is := List.drop 10 mC33) (L := [.ref p0, .ref p1, .int s.1, .int s.2.1, .int s.2.2, w5]) (st := []) (μ := μ) (t := 57) rfl h10 ?_
    obtain rfl := Option.some.inj hr
    exact hC (.ref p0) rfl (.ref p1) rfl (.int s.2.1) rfl (.int s.2.2) rfl w5 hw5
  · refine gBrF (p := (mI μ p1 1) ≤ s.2.2) (y := 33) (is := List.drop 10 mC33) (L := [.ref p0, .ref p1, .int s.1, .int s.2.1, .int s.2.2, w5]) (st := []) (μ := μ) (t := 57) rfl h10 ?_
    refine mGo.steps 2 (c' := (33, List.drop 12 mC33, [.ref p0, .ref p1, .int s.1, .int s.2.1, .int s.2.2, w5], [.ref p1, .ref p0], μ)) rfl ?_
    refine gGet (is := List.drop 13 mC33) (v := .ref (mP μ p1 4)) h1 rfl ?_
    refine mGo.steps 1 (c' := (33, List.drop 14 mC33, [.ref p0, .ref p1, .int s.1, .int s.2.1, .int s.2.2, w5], [.int s.2.2, .ref (mP μ p1 4), .ref p0], μ)) rfl ?_
    obtain ⟨h2, hr⟩ := mIf hr
    refine gIald (is := List.drop 15 mC33) h2 ?_
    obtain ⟨h3, hr⟩ := mIf hr
    obtain ⟨q4, h5, hr⟩ := mBi hr
    refine gCall (z := 30) (n := 1) (f := 0) (kind := 1) (a := p0) (As := [.int (mI μ (mP μ p1 4) (Int32.toNatClampNeg s.2.2))]) (y := 33) (is := List.drop 16 mC33) (L := [.ref p0, .ref p1, .int s.1, .int s.2.1, .int s.2.2, w5]) (rest := []) (μ := μ) rfl (by decide) (by decide) ⟨rfl, rfl⟩ rfl h3 (Nat.le_of_ble_eq_true rfl) (Nat.le_of_ble_eq_true rfl) (t30 h5) ?_
    refine mGo.steps 3 (c' := (33, List.drop 19 mC33, [.ref p0, .ref p1, .int s.1, .int s.2.1, .int s.2.2, .int q4], [.int (-1), .int s.1], μ)) rfl ?_
    rcases mIte hr with ⟨h9, hr⟩ | ⟨h9, hr⟩
    · refine gBrT (p := s.1 = (-1)) (y := 33) (is := List.drop 20 mC33) (L := [.ref p0, .ref p1, .int s.1, .int s.2.1, .int s.2.2, .int q4]) (st := []) (μ := μ) (t := 40) rfl h9 ?_
      exact t33L6_23 μ p0 p1 s.2.2 q4 (.int s.1) rfl (.int s.2.1) rfl hr hC
    · refine gBrF (p := s.1 = (-1)) (y := 33) (is := List.drop 20 mC33) (L := [.ref p0, .ref p1, .int s.1, .int s.2.1, .int s.2.2, .int q4]) (st := []) (μ := μ) (t := 40) rfl h9 ?_
      refine mGo.steps 2 (c' := (33, List.drop 22 mC33, [.ref p0, .ref p1, .int s.1, .int s.2.1, .int s.2.2, .int q4], [.int s.2.1, .int q4], μ)) rfl ?_
      rcases mIte hr with ⟨h8, hr⟩ | ⟨h8, hr⟩
      · refine gBrT (p := s.2.1 ≤ q4) (y := 33) (is := List.drop 23 mC33) (L := [.ref p0, .ref p1, .int s.1, .int s.2.1, .int s.2.2, .int q4]) (st := []) (μ := μ) (t := 51) rfl h8 ?_
        exact t33L6_30 μ p0 p1 s.1 s.2.1 s.2.2 (.int q4) rfl hr hC
      · refine gBrF (p := s.2.1 ≤ q4) (y := 33) (is := List.drop 23 mC33) (L := [.ref p0, .ref p1, .int s.1, .int s.2.1, .int s.2.2, .int q4]) (st := []) (μ := μ) (t := 51) rfl h8 ?_
        exact t33L6_23 μ p0 p1 s.2.2 q4 (.int s.1) rfl (.int s.2.1) rfl hr hC
theorem t33L6l (μ : mM) (p0 : Nat) (p1 : Nat) {r : Option Value × mM} (n : Nat) (s : Int32 × Int32 × Int32) (o : (Int32) ⊕ Int32) (hr : mLoop (s33L6 μ p0 p1) n s = some o) (hC : Sum.elim (fun x : Int32 => ∀ (w0 : Value) (hw0 : mNotL w0 = true) (w1 : Value) (hw1 : mNotL w1 = true) (w3 : Value) (hw3 : mNotL w3 = true) (w4 : Value) (hw4 : mNotL w4 = true) (w5 : Value) (hw5 : mNotL w5 = true), mGo mG (33, List.drop 32 mC33, [w0, w1, .int x, w3, w4, w5], [], μ) r) (fun y : Int32 => r = (some (.int y), μ)) o) : ∀ (w5 : Value) (hw5 : mNotL w5 = true), mGo mG (33, List.drop 6 mC33, [.ref p0, .ref p1, .int s.1, .int s.2.1, .int s.2.2, w5], [], μ) r :=
  mLoop_go (Hd := (fun s' : Int32 × Int32 × Int32 => ∀ (w5 : Value) (hw5 : mNotL w5 = true), mGo mG (33, List.drop 6 mC33, [.ref p0, .ref p1, .int s'.1, .int s'.2.1, .int s'.2.2, w5], [], μ) r)) (fun s o hb hC => t33L6 μ p0 p1 s o hb hC) n s o hr hC
def s33 (μ : mM) (a0 : Nat) (a1 : Nat) : Option Int32 :=
  (mLoop (s33L6 μ a0 a1) 1000 ((-1), 0, 0)).bind fun o11 => Sum.elim (fun x12 => some x12) (fun y13 => some y13) o11
set_option maxRecDepth 20000 in
theorem t33 {μ : mM} {a0 : Nat} {a1 : Nat} {o : Int32} (hr : s33 μ a0 a1 = some o) : mEv mG 33 [.ref a0, .ref a1] μ (some (.int o)) (μ) := by
  obtain ⟨r, hC⟩ : ∃ r : Option Value × mM, r = (some (.int o), μ) := ⟨_, rfl⟩
  show mGo mG (33, List.drop 0 mC33, [.ref a0, .ref a1, .retAddr 0, .retAddr 0, .retAddr 0, .retAddr 0], [], μ) (some (.int o), μ)
  rw [← hC]
  unfold s33 at hr
  refine mGo.steps 6 (c' := (33, List.drop 6 mC33, [.ref a0, .ref a1, .int (-1), .int 0, .int 0, .retAddr 0], [], μ)) rfl ?_
  obtain ⟨o11, h14, hr⟩ := mBi hr
  refine t33L6l μ a0 a1 1000 ((-1), 0, 0) o11 h14 ?_ (.retAddr 0) rfl
  cases o11 with
  | inl x12 =>
    show ∀ (w0 : Value) (hw0 : mNotL w0 = true) (w1 : Value) (hw1 : mNotL w1 = true) (w3 : Value) (hw3 : mNotL w3 = true) (w4 : Value) (hw4 : mNotL w4 = true) (w5 : Value) (hw5 : mNotL w5 = true), mGo mG (33, List.drop 32 mC33, [w0, w1, .int x12, w3, w4, w5], [], μ) r
    intro w0 hw0 w1 hw1 w3 hw3 w4 hw4 w5 hw5
    replace hr : (_) = some _ := hr
    refine mGo.steps 1 (c' := (33, List.drop 33 mC33, [w0, w1, .int x12, w3, w4, w5], [.int x12], μ)) rfl ?_
    obtain rfl := Option.some.inj hr
    rw [show r = _ from hC]
    exact gIret rfl
  | inr y13 =>
    obtain rfl := Option.some.inj hr
    exact hC

/-! 35: TunnelFabric$Fabric.videoOpenedAfter(I)LTunnelFabric$Tunnel; -/
def s35L4_34 (μ : mM) (p0 : Nat) (p1 : Int32) (v2 : Nat) (v3 : Int32) : Option ((Nat × Int32) ⊕ ((Nat) ⊕ Nat)) :=
  some (.inl (v2, v3 + 1))
set_option maxRecDepth 20000 in
theorem t35L4_34 (μ : mM) (p0 : Nat) (p1 : Int32) (v2 : Nat) (v3 : Int32) (w4 : Value) (hw4 : mNotL w4 = true) (w5 : Value) (hw5 : mNotL w5 = true) {o : ((Nat × Int32) ⊕ ((Nat) ⊕ Nat))} {r : Option Value × mM} (hr : s35L4_34 μ p0 p1 v2 v3 = some o) (hC : Sum.elim (fun s' : Nat × Int32 => ∀ (w4 : Value) (hw4 : mNotL w4 = true) (w5 : Value) (hw5 : mNotL w5 = true), mGo mG (35, List.drop 4 mC35, [.ref p0, .int p1, .ref s'.1, .int s'.2, w4, w5], [], μ) r) (Sum.elim (fun x : Nat => ∀ (w0 : Value) (hw0 : mNotL w0 = true) (w1 : Value) (hw1 : mNotL w1 = true) (w3 : Value) (hw3 : mNotL w3 = true) (w4 : Value) (hw4 : mNotL w4 = true) (w5 : Value) (hw5 : mNotL w5 = true), mGo mG (35, List.drop 36 mC35, [w0, w1, .ref x, w3, w4, w5], [], μ) r) (fun y : Nat => r = (some (.ref y), μ))) o) : mGo mG (35, List.drop 34 mC35, [.ref p0, .int p1, .ref v2, .int v3, w4, w5], [], μ) r := by
  unfold s35L4_34 at hr
  refine mGo.steps 2 (c' := (35, List.drop 4 mC35, [.ref p0, .int p1, .ref v2, .int (v3 + 1), w4, w5], [], μ)) rfl ?_
  obtain rfl := Option.some.inj hr
  exact hC w4 hw4 w5 hw5
def s35L4_32 (μ : mM) (p0 : Nat) (p1 : Int32) (v3 : Int32) (v4 : Nat) : Option ((Nat × Int32) ⊕ ((Nat) ⊕ Nat)) :=
  s35L4_34 μ p0 p1 v4 v3
set_option maxRecDepth 20000 in
theorem t35L4_32 (μ : mM) (p0 : Nat) (p1 : Int32) (v3 : Int32) (v4 : Nat) (w2 : Value) (hw2 : mNotL w2 = true) (w5 : Value) (hw5 : mNotL w5 = true) {o : ((Nat × Int32) ⊕ ((Nat) ⊕ Nat))} {r : Option Value × mM} (hr : s35L4_32 μ p0 p1 v3 v4 = some o) (hC : Sum.elim (fun s' : Nat × Int32 => ∀ (w4 : Value) (hw4 : mNotL w4 = true) (w5 : Value) (hw5 : mNotL w5 = true), mGo mG (35, List.drop 4 mC35, [.ref p0, .int p1, .ref s'.1, .int s'.2, w4, w5], [], μ) r) (Sum.elim (fun x : Nat => ∀ (w0 : Value) (hw0 : mNotL w0 = true) (w1 : Value) (hw1 : mNotL w1 = true) (w3 : Value) (hw3 : mNotL w3 = true) (w4 : Value) (hw4 : mNotL w4 = true) (w5 : Value) (hw5 : mNotL w5 = true), mGo mG (35, List.drop 36 mC35, [w0, w1, .ref x, w3, w4, w5], [], μ) r) (fun y : Nat => r = (some (.ref y), μ))) o) : mGo mG (35, List.drop 32 mC35, [.ref p0, .int p1, w2, .int v3, .ref v4, w5], [], μ) r := by
  unfold s35L4_32 at hr
  refine mGo.steps 2 (c' := (35, List.drop 34 mC35, [.ref p0, .int p1, .ref v4, .int v3, .ref v4, w5], [], μ)) rfl ?_
  exact t35L4_34 μ p0 p1 v4 v3 (.ref v4) rfl w5 hw5 hr hC
def s35L4_22 (μ : mM) (p0 : Nat) (p1 : Int32) (v2 : Nat) (v3 : Int32) (v4 : Nat) (t0 : Int32) : Option ((Nat × Int32) ⊕ ((Nat) ⊕ Nat)) :=
  if t0 = 0 then (s35L4_34 μ p0 p1 v2 v3) else (if v2 = 0 then (s35L4_32 μ p0 p1 v3 v4) else (if (mS μ v4).1 = 6 then if (mS μ v2).1 = 6 then if (mI μ v2 5) ≤ (mI μ v4 5) then (s35L4_34 μ p0 p1 v2 v3) else (s35L4_32 μ p0 p1 v3 v4) else none else none))
set_option maxRecDepth 20000 in
theorem t35L4_22 (μ : mM) (p0 : Nat) (p1 : Int32) (v2 : Nat) (v3 : Int32) (v4 : Nat) (t0 : Int32) (w5 : Value) (hw5 : mNotL w5 = true) {o : ((Nat × Int32) ⊕ ((Nat) ⊕ Nat))} {r : Option Value × mM} (hr : s35L4_22 μ p0 p1 v2 v3 v4 t0 = some o) (hC : Sum.elim (fun s' : Nat × Int32 => ∀ (w4 : Value) (hw4 : mNotL w4 = true) (w5 : Value) (hw5 : mNotL w5 = true), mGo mG (35, List.drop 4 mC35, [.ref p0, .int p1, .ref s'.1, .int s'.2, w4, w5], [], μ) r) (Sum.elim (fun x : Nat => ∀ (w0 : Value) (hw0 : mNotL w0 = true) (w1 : Value) (hw1 : mNotL w1 = true) (w3 : Value) (hw3 : mNotL w3 = true) (w4 : Value) (hw4 : mNotL w4 = true) (w5 : Value) (hw5 : mNotL w5 = true), mGo mG (35, List.drop 36 mC35, [w0, w1, .ref x, w3, w4, w5], [], μ) r) (fun y : Nat => r = (some (.ref y), μ))) o) : mGo mG (35, List.drop 22 mC35, [.ref p0, .int p1, .ref v2, .int v3, .ref v4, w5], [.int t0], μ) r := by
  unfold s35L4_22 at hr
  refine mGo.steps 2 (c' := (35, List.drop 24 mC35, [.ref p0, .int p1, .ref v2, .int v3, .ref v4, .int t0], [.int t0], μ)) rfl ?_
  rcases mIte hr with ⟨h10, hr⟩ | ⟨h10, hr⟩
  · refine gBrT (p := t0 = 0) (y := 35) (is := List.drop 25 mC35) (L := [.ref p0, .int p1, .ref v2, .int v3, .ref v4, .int t0]) (st := []) (μ := μ) (t := 66) rfl h10 ?_
    exact t35L4_34 μ p0 p1 v2 v3 (.ref v4) rfl (.int t0) rfl hr hC
  · refine gBrF (p := t0 = 0) (y := 35) (is := List.drop 25 mC35) (L := [.ref p0, .int p1, .ref v2, .int v3, .ref v4, .int t0]) (st := []) (μ := μ) (t := 66) rfl h10 ?_
    refine mGo.steps 1 (c' := (35, List.drop 26 mC35, [.ref p0, .int p1, .ref v2, .int v3, .ref v4, .int t0], [.ref v2], μ)) rfl ?_
    rcases mIte hr with ⟨h9, hr⟩ | ⟨h9, hr⟩
    · refine gBrT (p := v2 = 0) (y := 35) (is := List.drop 27 mC35) (L := [.ref p0, .int p1, .ref v2, .int v3, .ref v4, .int t0]) (st := []) (μ := μ) (t := 63) rfl h9 ?_
      exact t35L4_32 μ p0 p1 v3 v4 (.ref v2) rfl (.int t0) rfl hr hC
    · refine gBrF (p := v2 = 0) (y := 35) (is := List.drop 27 mC35) (L := [.ref p0, .int p1, .ref v2, .int v3, .ref v4, .int t0]) (st := []) (μ := μ) (t := 63) rfl h9 ?_
      refine mGo.steps 1 (c' := (35, List.drop 28 mC35, [.ref p0, .int p1, .ref v2, .int v3, .ref v4, .int t0], [.ref v4], μ)) rfl ?_
      obtain ⟨h6, hr⟩ := mIf hr
      refine gGet (is := List.drop 29 mC35) (v := .int (mI μ v4 5)) h6 rfl ?_
      refine mGo.steps 1 (c' := (35, List.drop 30 mC35, [.ref p0, .int p1, .ref v2, .int v3, .ref v4, .int t0], [.ref v2, .int (mI μ v4 5)], μ)) rfl ?_
      obtain ⟨h7, hr⟩ := mIf hr
      refine gGet (is := List.drop 31 mC35) (v := .int (mI μ v2 5)) h7 rfl ?_
      rcases mIte hr with ⟨h8, hr⟩ | ⟨h8, hr⟩
      · refine gBrT (p := (mI μ v2 5) ≤ (mI μ v4 5)) (y := 35) (is := List.drop 32 mC35) (L := [.ref p0, .int p1, .ref v2, .int v3, .ref v4, .int t0]) (st := []) (μ := μ) (t := 66) rfl h8 ?_
        exact t35L4_34 μ p0 p1 v2 v3 (.ref v4) rfl (.int t0) rfl hr hC
      · refine gBrF (p := (mI μ v2 5) ≤ (mI μ v4 5)) (y := 35) (is := List.drop 32 mC35) (L := [.ref p0, .int p1, .ref v2, .int v3, .ref v4, .int t0]) (st := []) (μ := μ) (t := 66) rfl h8 ?_
        exact t35L4_32 μ p0 p1 v3 v4 (.ref v2) rfl (.int t0) rfl hr hC
def s35L4_21 (μ : mM) (p0 : Nat) (p1 : Int32) (v2 : Nat) (v3 : Int32) (v4 : Nat) : Option ((Nat × Int32) ⊕ ((Nat) ⊕ Nat)) :=
  s35L4_22 μ p0 p1 v2 v3 v4 0
set_option maxRecDepth 20000 in
theorem t35L4_21 (μ : mM) (p0 : Nat) (p1 : Int32) (v2 : Nat) (v3 : Int32) (v4 : Nat) (w5 : Value) (hw5 : mNotL w5 = true) {o : ((Nat × Int32) ⊕ ((Nat) ⊕ Nat))} {r : Option Value × mM} (hr : s35L4_21 μ p0 p1 v2 v3 v4 = some o) (hC : Sum.elim (fun s' : Nat × Int32 => ∀ (w4 : Value) (hw4 : mNotL w4 = true) (w5 : Value) (hw5 : mNotL w5 = true), mGo mG (35, List.drop 4 mC35, [.ref p0, .int p1, .ref s'.1, .int s'.2, w4, w5], [], μ) r) (Sum.elim (fun x : Nat => ∀ (w0 : Value) (hw0 : mNotL w0 = true) (w1 : Value) (hw1 : mNotL w1 = true) (w3 : Value) (hw3 : mNotL w3 = true) (w4 : Value) (hw4 : mNotL w4 = true) (w5 : Value) (hw5 : mNotL w5 = true), mGo mG (35, List.drop 36 mC35, [w0, w1, .ref x, w3, w4, w5], [], μ) r) (fun y : Nat => r = (some (.ref y), μ))) o) : mGo mG (35, List.drop 21 mC35, [.ref p0, .int p1, .ref v2, .int v3, .ref v4, w5], [], μ) r := by
  unfold s35L4_21 at hr
  refine mGo.steps 1 (c' := (35, List.drop 22 mC35, [.ref p0, .int p1, .ref v2, .int v3, .ref v4, w5], [.int 0], μ)) rfl ?_
  exact t35L4_22 μ p0 p1 v2 v3 v4 0 w5 hw5 hr hC
def s35L4 (μ : mM) (p0 : Nat) (p1 : Int32) (s : Nat × Int32) : Option ((Nat × Int32) ⊕ ((Nat) ⊕ Nat)) :=
  if 10 ≤ s.2 then (some (.inr (.inl s.1))) else (if (mS μ p0).1 = 1 then if (mS μ (mP μ p0 1)).1 = 20 + 6 ∧ mInb s.2 (mS μ (mP μ p0 1)).2 then if (mS μ (mP μ (mP μ p0 1) (Int32.toNatClampNeg s.2))).1 = 6 then (s80 μ (mP μ (mP μ p0 1) (Int32.toNatClampNeg s.2))).bind fun q4 => if q4 = 0 then (s35L4_21 μ p0 p1 s.1 s.2 (mP μ (mP μ p0 1) (Int32.toNatClampNeg s.2))) else (if (mI μ (mP μ (mP μ p0 1) (Int32.toNatClampNeg s.2)) 5) ≤ p1 then (s35L4_21 μ p0 p1 s.1 s.2 (mP μ (mP μ p0 1) (Int32.toNatClampNeg s.2))) else (s35L4_22 μ p0 p1 s.1 s.2 (mP μ (mP μ p0 1) (Int32.toNatClampNeg s.2)) 1)) else none else none else none)
set_option maxRecDepth 20000 in
theorem t35L4 (μ : mM) (p0 : Nat) (p1 : Int32) {r : Option Value × mM} (s : Nat × Int32) (o : ((Nat × Int32) ⊕ ((Nat) ⊕ Nat))) (hr : s35L4 μ p0 p1 s = some o) (hC : Sum.elim (fun s' : Nat × Int32 => ∀ (w4 : Value) (hw4 : mNotL w4 = true) (w5 : Value) (hw5 : mNotL w5 = true), mGo mG (35, List.drop 4 mC35, [.ref p0, .int p1, .ref s'.1, .int s'.2, w4, w5], [], μ) r) (Sum.elim (fun x : Nat => ∀ (w0 : Value) (hw0 : mNotL w0 = true) (w1 : Value) (hw1 : mNotL w1 = true) (w3 : Value) (hw3 : mNotL w3 = true) (w4 : Value) (hw4 : mNotL w4 = true) (w5 : Value) (hw5 : mNotL w5 = true), mGo mG (35, List.drop 36 mC35, [w0, w1, .ref x, w3, w4, w5], [], μ) r) (fun y : Nat => r = (some (.ref y), μ))) o) : ∀ (w4 : Value) (hw4 : mNotL w4 = true) (w5 : Value) (hw5 : mNotL w5 = true), mGo mG (35, List.drop 4 mC35, [.ref p0, .int p1, .ref s.1, .int s.2, w4, w5], [], μ) r := by
  intro w4 hw4 w5 hw5
  unfold s35L4 at hr
  refine mGo.steps 2 (c' := (35, List.drop 6 mC35, [.ref p0, .int p1, .ref s.1, .int s.2, w4, w5], [.int 10, .int s.2], μ)) rfl ?_
  rcases mIte hr with ⟨h13, hr⟩ | ⟨h13, hr⟩
  · refine gBrT (p := 10 ≤ s.2) (y := 35) (is := List.drop 7 mC35) (L := [.ref p0, .int p1, .ref s.1, .int s.2, w4, w5]) (st := []) (μ := μ) (t := 72) rfl h13 ?_
    obtain rfl := Option.some.inj hr
    exact hC (.ref p0) rfl (.int p1) rfl (.int s.2) rfl w4 hw4 w5 hw5
  · refine gBrF (p := 10 ≤ s.2) (y := 35) (is := List.drop 7 mC35) (L := [.ref p0, .int p1, .ref s.1, .int s.2, w4, w5]) (st := []) (μ := μ) (t := 72) rfl h13 ?_
    refine mGo.steps 1 (c' := (35, List.drop 8 mC35, [.ref p0, .int p1, .ref s.1, .int s.2, w4, w5], [.ref p0], μ)) rfl ?_
    obtain ⟨h1, hr⟩ := mIf hr
    refine gGet (is := List.drop 9 mC35) (v := .ref (mP μ p0 1)) h1 rfl ?_
    refine mGo.steps 1 (c' := (35, List.drop 10 mC35, [.ref p0, .int p1, .ref s.1, .int s.2, w4, w5], [.int s.2, .ref (mP μ p0 1)], μ)) rfl ?_
    obtain ⟨h2, hr⟩ := mIf hr
    refine gAald (is := List.drop 11 mC35) h2 ?_
    refine mGo.steps 2 (c' := (35, List.drop 13 mC35, [.ref p0, .int p1, .ref s.1, .int s.2, .ref (mP μ (mP μ p0 1) (Int32.toNatClampNeg s.2)), w5], [.ref (mP μ (mP μ p0 1) (Int32.toNatClampNeg s.2))], μ)) rfl ?_
    obtain ⟨h3, hr⟩ := mIf hr
    obtain ⟨q4, h5, hr⟩ := mBi hr
    refine gCall (z := 80) (n := 0) (f := 0) (kind := 1) (a := (mP μ (mP μ p0 1) (Int32.toNatClampNeg s.2))) (As := []) (y := 35) (is := List.drop 14 mC35) (L := [.ref p0, .int p1, .ref s.1, .int s.2, .ref (mP μ (mP μ p0 1) (Int32.toNatClampNeg s.2)), w5]) (rest := []) (μ := μ) rfl (by decide) (by decide) ⟨rfl, rfl⟩ rfl h3 (Nat.le_of_ble_eq_true rfl) (Nat.le_of_ble_eq_true rfl) (t80 h5) ?_
    rcases mIte hr with ⟨h12, hr⟩ | ⟨h12, hr⟩
    · refine gBrT (p := q4 = 0) (y := 35) (is := List.drop 15 mC35) (L := [.ref p0, .int p1, .ref s.1, .int s.2, .ref (mP μ (mP μ p0 1) (Int32.toNatClampNeg s.2)), w5]) (st := []) (μ := μ) (t := 39) rfl h12 ?_
      exact t35L4_21 μ p0 p1 s.1 s.2 (mP μ (mP μ p0 1) (Int32.toNatClampNeg s.2)) w5 hw5 hr hC
    · refine gBrF (p := q4 = 0) (y := 35) (is := List.drop 15 mC35) (L := [.ref p0, .int p1, .ref s.1, .int s.2, .ref (mP μ (mP μ p0 1) (Int32.toNatClampNeg s.2)), w5]) (st := []) (μ := μ) (t := 39) rfl h12 ?_
      refine mGo.steps 1 (c' := (35, List.drop 16 mC35, [.ref p0, .int p1, .ref s.1, .int s.2, .ref (mP μ (mP μ p0 1) (Int32.toNatClampNeg s.2)), w5], [.ref (mP μ (mP μ p0 1) (Int32.toNatClampNeg s.2))], μ)) rfl ?_
      refine gGet (is := List.drop 17 mC35) (v := .int (mI μ (mP μ (mP μ p0 1) (Int32.toNatClampNeg s.2)) 5)) h3 rfl ?_
      refine mGo.steps 1 (c' := (35, List.drop 18 mC35, [.ref p0, .int p1, .ref s.1, .int s.2, .ref (mP μ (mP μ p0 1) (Int32.toNatClampNeg s.2)), w5], [.int p1, .int (mI μ (mP μ (mP μ p0 1) (Int32.toNatClampNeg s.2)) 5)], μ)) rfl ?_
      rcases mIte hr with ⟨h11, hr⟩ | ⟨h11, hr⟩
      · refine gBrT (p := (mI μ (mP μ (mP μ p0 1) (Int32.toNatClampNeg s.2)) 5) ≤ p1) (y := 35) (is := List.drop 19 mC35) (L := [.ref p0, .int p1, .ref s.1, .int s.2, .ref (mP μ (mP μ p0 1) (Int32.toNatClampNeg s.2)), w5]) (st := []) (μ := μ) (t := 39) rfl h11 ?_
        exact t35L4_21 μ p0 p1 s.1 s.2 (mP μ (mP μ p0 1) (Int32.toNatClampNeg s.2)) w5 hw5 hr hC
      · refine gBrF (p := (mI μ (mP μ (mP μ p0 1) (Int32.toNatClampNeg s.2)) 5) ≤ p1) (y := 35) (is := List.drop 19 mC35) (L := [.ref p0, .int p1, .ref s.1, .int s.2, .ref (mP μ (mP μ p0 1) (Int32.toNatClampNeg s.2)), w5]) (st := []) (μ := μ) (t := 39) rfl h11 ?_
        refine mGo.steps 2 (c' := (35, List.drop 22 mC35, [.ref p0, .int p1, .ref s.1, .int s.2, .ref (mP μ (mP μ p0 1) (Int32.toNatClampNeg s.2)), w5], [.int 1], μ)) rfl ?_
        exact t35L4_22 μ p0 p1 s.1 s.2 (mP μ (mP μ p0 1) (Int32.toNatClampNeg s.2)) 1 w5 hw5 hr hC
theorem t35L4l (μ : mM) (p0 : Nat) (p1 : Int32) {r : Option Value × mM} (n : Nat) (s : Nat × Int32) (o : (Nat) ⊕ Nat) (hr : mLoop (s35L4 μ p0 p1) n s = some o) (hC : Sum.elim (fun x : Nat => ∀ (w0 : Value) (hw0 : mNotL w0 = true) (w1 : Value) (hw1 : mNotL w1 = true) (w3 : Value) (hw3 : mNotL w3 = true) (w4 : Value) (hw4 : mNotL w4 = true) (w5 : Value) (hw5 : mNotL w5 = true), mGo mG (35, List.drop 36 mC35, [w0, w1, .ref x, w3, w4, w5], [], μ) r) (fun y : Nat => r = (some (.ref y), μ)) o) : ∀ (w4 : Value) (hw4 : mNotL w4 = true) (w5 : Value) (hw5 : mNotL w5 = true), mGo mG (35, List.drop 4 mC35, [.ref p0, .int p1, .ref s.1, .int s.2, w4, w5], [], μ) r :=
  mLoop_go (Hd := (fun s' : Nat × Int32 => ∀ (w4 : Value) (hw4 : mNotL w4 = true) (w5 : Value) (hw5 : mNotL w5 = true), mGo mG (35, List.drop 4 mC35, [.ref p0, .int p1, .ref s'.1, .int s'.2, w4, w5], [], μ) r)) (fun s o hb hC => t35L4 μ p0 p1 s o hb hC) n s o hr hC
def s35 (μ : mM) (a0 : Nat) (a1 : Int32) : Option Nat :=
  (mLoop (s35L4 μ a0 a1) 1000 (0, 0)).bind fun o14 => Sum.elim (fun x15 => some x15) (fun y16 => some y16) o14
set_option maxRecDepth 20000 in
theorem t35 {μ : mM} {a0 : Nat} {a1 : Int32} {o : Nat} (hr : s35 μ a0 a1 = some o) : mEv mG 35 [.ref a0, .int a1] μ (some (.ref o)) (μ) := by
  obtain ⟨r, hC⟩ : ∃ r : Option Value × mM, r = (some (.ref o), μ) := ⟨_, rfl⟩
  show mGo mG (35, List.drop 0 mC35, [.ref a0, .int a1, .retAddr 0, .retAddr 0, .retAddr 0, .retAddr 0], [], μ) (some (.ref o), μ)
  rw [← hC]
  unfold s35 at hr
  refine mGo.steps 4 (c' := (35, List.drop 4 mC35, [.ref a0, .int a1, .ref 0, .int 0, .retAddr 0, .retAddr 0], [], μ)) rfl ?_
  obtain ⟨o14, h17, hr⟩ := mBi hr
  refine t35L4l μ a0 a1 1000 (0, 0) o14 h17 ?_ (.retAddr 0) rfl (.retAddr 0) rfl
  cases o14 with
  | inl x15 =>
    show ∀ (w0 : Value) (hw0 : mNotL w0 = true) (w1 : Value) (hw1 : mNotL w1 = true) (w3 : Value) (hw3 : mNotL w3 = true) (w4 : Value) (hw4 : mNotL w4 = true) (w5 : Value) (hw5 : mNotL w5 = true), mGo mG (35, List.drop 36 mC35, [w0, w1, .ref x15, w3, w4, w5], [], μ) r
    intro w0 hw0 w1 hw1 w3 hw3 w4 hw4 w5 hw5
    replace hr : (_) = some _ := hr
    refine mGo.steps 1 (c' := (35, List.drop 37 mC35, [w0, w1, .ref x15, w3, w4, w5], [.ref x15], μ)) rfl ?_
    obtain rfl := Option.some.inj hr
    rw [show r = _ from hC]
    exact gAret rfl
  | inr y16 =>
    obtain rfl := Option.some.inj hr
    exact hC

/-! 34: TunnelFabric$Fabric.distribute()V -/
def s34L4_34 (p0 : Nat) (μ : mM) (v1 : Int32) (v2 : Int32) : Option ((Int32 × Int32 × mM) ⊕ ((mM) ⊕ mM)) :=
  some (.inl (v1, v2 + 1, μ))
set_option maxRecDepth 20000 in
theorem t34L4_34 (p0 : Nat) (μ : mM) (v1 : Int32) (v2 : Int32) (w3 : Value) (hw3 : mNotL w3 = true) {o : ((Int32 × Int32 × mM) ⊕ ((mM) ⊕ mM))} {r : Option Value × mM} (hr : s34L4_34 p0 μ v1 v2 = some o) (hC : Sum.elim (fun s' : Int32 × Int32 × mM => ∀ (w3 : Value) (hw3 : mNotL w3 = true), mGo mG (34, List.drop 4 mC34, [.ref p0, .int s'.1, .int s'.2.1, w3], [], s'.2.2) r) (Sum.elim (fun x : mM => ∀ (w0 : Value) (hw0 : mNotL w0 = true) (w1 : Value) (hw1 : mNotL w1 = true) (w2 : Value) (hw2 : mNotL w2 = true) (w3 : Value) (hw3 : mNotL w3 = true), mGo mG (34, List.drop 36 mC34, [w0, w1, w2, w3], [], x) r) (fun y : mM => r = (none, y))) o) : mGo mG (34, List.drop 34 mC34, [.ref p0, .int v1, .int v2, w3], [], μ) r := by
  unfold s34L4_34 at hr
  refine mGo.steps 2 (c' := (34, List.drop 4 mC34, [.ref p0, .int v1, .int (v2 + 1), w3], [], μ)) rfl ?_
  obtain rfl := Option.some.inj hr
  exact hC w3 hw3
def s34L4 (p0 : Nat) (s : Int32 × Int32 × mM) : Option ((Int32 × Int32 × mM) ⊕ ((mM) ⊕ mM)) :=
  if 10 ≤ s.2.1 then (some (.inr (.inl s.2.2))) else (if (mS s.2.2 p0).1 = 1 then (s35 s.2.2 p0 s.1).bind fun q2 => if ¬ q2 = 0 then (if (mS s.2.2 q2).1 = 6 then if (mI s.2.2 q2 3) ≤ (mI s.2.2 q2 4) then (s34L4_34 p0 s.2.2 (mI s.2.2 q2 5) s.2.1) else ((s31 s.2.2 p0 (mI s.2.2 q2 2)).bind fun q5 => (some (mUI s.2.2 q2 4 (mMin (mI s.2.2 q2 3) ((mI s.2.2 q2 4) + q5)))).bind fun μ7 => s34L4_34 p0 μ7 (mI s.2.2 q2 5) s.2.1) else none) else (some (.inr (.inr s.2.2))) else none)
set_option maxRecDepth 20000 in
theorem t34L4 (p0 : Nat) {r : Option Value × mM} (s : Int32 × Int32 × mM) (o : ((Int32 × Int32 × mM) ⊕ ((mM) ⊕ mM))) (hr : s34L4 p0 s = some o) (hC : Sum.elim (fun s' : Int32 × Int32 × mM => ∀ (w3 : Value) (hw3 : mNotL w3 = true), mGo mG (34, List.drop 4 mC34, [.ref p0, .int s'.1, .int s'.2.1, w3], [], s'.2.2) r) (Sum.elim (fun x : mM => ∀ (w0 : Value) (hw0 : mNotL w0 = true) (w1 : Value) (hw1 : mNotL w1 = true) (w2 : Value) (hw2 : mNotL w2 = true) (w3 : Value) (hw3 : mNotL w3 = true), mGo mG (34, List.drop 36 mC34, [w0, w1, w2, w3], [], x) r) (fun y : mM => r = (none, y))) o) : ∀ (w3 : Value) (hw3 : mNotL w3 = true), mGo mG (34, List.drop 4 mC34, [.ref p0, .int s.1, .int s.2.1, w3], [], s.2.2) r := by
  intro w3 hw3
  unfold s34L4 at hr
  refine mGo.steps 2 (c' := (34, List.drop 6 mC34, [.ref p0, .int s.1, .int s.2.1, w3], [.int 10, .int s.2.1], s.2.2)) rfl ?_
  rcases mIte hr with ⟨h10, hr⟩ | ⟨h10, hr⟩
  · refine gBrT (p := 10 ≤ s.2.1) (y := 34) (is := List.drop 7 mC34) (L := [.ref p0, .int s.1, .int s.2.1, w3]) (st := []) (μ := s.2.2) (t := 67) rfl h10 ?_
    obtain rfl := Option.some.inj hr
    exact hC (.ref p0) rfl (.int s.1) rfl (.int s.2.1) rfl w3 hw3
  · refine gBrF (p := 10 ≤ s.2.1) (y := 34) (is := List.drop 7 mC34) (L := [.ref p0, .int s.1, .int s.2.1, w3]) (st := []) (μ := s.2.2) (t := 67) rfl h10 ?_
    refine mGo.steps 2 (c' := (34, List.drop 9 mC34, [.ref p0, .int s.1, .int s.2.1, w3], [.int s.1, .ref p0], s.2.2)) rfl ?_
    obtain ⟨h1, hr⟩ := mIf hr
    obtain ⟨q2, h3, hr⟩ := mBi hr
    refine gCall (z := 35) (n := 1) (f := 0) (kind := 1) (a := p0) (As := [.int s.1]) (y := 34) (is := List.drop 10 mC34) (L := [.ref p0, .int s.1, .int s.2.1, w3]) (rest := []) (μ := s.2.2) rfl (by decide) (by decide) ⟨rfl, rfl⟩ rfl h1 (Nat.le_of_ble_eq_true rfl) (Nat.le_of_ble_eq_true rfl) (t35 h3) ?_
    refine mGo.steps 2 (c' := (34, List.drop 12 mC34, [.ref p0, .int s.1, .int s.2.1, .ref q2], [.ref q2], s.2.2)) rfl ?_
    rcases mIte hr with ⟨h9, hr⟩ | ⟨h9, hr⟩
    · refine gBrT (p := ¬ q2 = 0) (y := 34) (is := List.drop 13 mC34) (L := [.ref p0, .int s.1, .int s.2.1, .ref q2]) (st := []) (μ := s.2.2) (t := 21) rfl h9 ?_
      refine mGo.steps 1 (c' := (34, List.drop 15 mC34, [.ref p0, .int s.1, .int s.2.1, .ref q2], [.ref q2], s.2.2)) rfl ?_
      obtain ⟨h4, hr⟩ := mIf hr
      refine gGet (is := List.drop 16 mC34) (v := .int (mI s.2.2 q2 5)) h4 rfl ?_
      refine mGo.steps 2 (c' := (34, List.drop 18 mC34, [.ref p0, .int (mI s.2.2 q2 5), .int s.2.1, .ref q2], [.ref q2], s.2.2)) rfl ?_
      refine gGet (is := List.drop 19 mC34) (v := .int (mI s.2.2 q2 4)) h4 rfl ?_
      refine mGo.steps 1 (c' := (34, List.drop 20 mC34, [.ref p0, .int (mI s.2.2 q2 5), .int s.2.1, .ref q2], [.ref q2, .int (mI s.2.2 q2 4)], s.2.2)) rfl ?_
      refine gGet (is := List.drop 21 mC34) (v := .int (mI s.2.2 q2 3)) h4 rfl ?_
      rcases mIte hr with ⟨h8, hr⟩ | ⟨h8, hr⟩
      · refine gBrT (p := (mI s.2.2 q2 3) ≤ (mI s.2.2 q2 4)) (y := 34) (is := List.drop 22 mC34) (L := [.ref p0, .int (mI s.2.2 q2 5), .int s.2.1, .ref q2]) (st := []) (μ := s.2.2) (t := 61) rfl h8 ?_
        exact t34L4_34 p0 s.2.2 (mI s.2.2 q2 5) s.2.1 (.ref q2) rfl hr hC
      · refine gBrF (p := (mI s.2.2 q2 3) ≤ (mI s.2.2 q2 4)) (y := 34) (is := List.drop 22 mC34) (L := [.ref p0, .int (mI s.2.2 q2 5), .int s.2.1, .ref q2]) (st := []) (μ := s.2.2) (t := 61) rfl h8 ?_
        refine mGo.steps 2 (c' := (34, List.drop 24 mC34, [.ref p0, .int (mI s.2.2 q2 5), .int s.2.1, .ref q2], [.ref q2, .ref q2], s.2.2)) rfl ?_
        refine gGet (is := List.drop 25 mC34) (v := .int (mI s.2.2 q2 3)) h4 rfl ?_
        refine mGo.steps 1 (c' := (34, List.drop 26 mC34, [.ref p0, .int (mI s.2.2 q2 5), .int s.2.1, .ref q2], [.ref q2, .int (mI s.2.2 q2 3), .ref q2], s.2.2)) rfl ?_
        refine gGet (is := List.drop 27 mC34) (v := .int (mI s.2.2 q2 4)) h4 rfl ?_
        refine mGo.steps 2 (c' := (34, List.drop 29 mC34, [.ref p0, .int (mI s.2.2 q2 5), .int s.2.1, .ref q2], [.ref q2, .ref p0, .int (mI s.2.2 q2 4), .int (mI s.2.2 q2 3), .ref q2], s.2.2)) rfl ?_
        refine gGet (is := List.drop 30 mC34) (v := .int (mI s.2.2 q2 2)) h4 rfl ?_
        obtain ⟨q5, h6, hr⟩ := mBi hr
        refine gCall (z := 31) (n := 1) (f := 0) (kind := 1) (a := p0) (As := [.int (mI s.2.2 q2 2)]) (y := 34) (is := List.drop 31 mC34) (L := [.ref p0, .int (mI s.2.2 q2 5), .int s.2.1, .ref q2]) (rest := [.int (mI s.2.2 q2 4), .int (mI s.2.2 q2 3), .ref q2]) (μ := s.2.2) rfl (by decide) (by decide) ⟨rfl, rfl⟩ rfl h1 (Nat.le_of_ble_eq_true rfl) (Nat.le_of_ble_eq_true rfl) (t31 h6) ?_
        refine mGo.steps 2 (c' := (34, List.drop 33 mC34, [.ref p0, .int (mI s.2.2 q2 5), .int s.2.1, .ref q2], [.int (mMin (mI s.2.2 q2 3) ((mI s.2.2 q2 4) + q5)), .ref q2], s.2.2)) rfl ?_
        replace hr := mBs hr
        refine gPut (is := List.drop 34 mC34) (μ' := mUI s.2.2 q2 4 (mMin (mI s.2.2 q2 3) ((mI s.2.2 q2 4) + q5))) h4 rfl ?_
        let μ7 : mM := mUI s.2.2 q2 4 (mMin (mI s.2.2 q2 3) ((mI s.2.2 q2 4) + q5))
        exact t34L4_34 p0 μ7 (mI s.2.2 q2 5) s.2.1 (.ref q2) rfl hr hC
    · refine gBrF (p := ¬ q2 = 0) (y := 34) (is := List.drop 13 mC34) (L := [.ref p0, .int s.1, .int s.2.1, .ref q2]) (st := []) (μ := s.2.2) (t := 21) rfl h9 ?_
      obtain rfl := Option.some.inj hr
      rw [show r = _ from hC]
      exact gVret rfl
theorem t34L4l (p0 : Nat) {r : Option Value × mM} (n : Nat) (s : Int32 × Int32 × mM) (o : (mM) ⊕ mM) (hr : mLoop (s34L4 p0) n s = some o) (hC : Sum.elim (fun x : mM => ∀ (w0 : Value) (hw0 : mNotL w0 = true) (w1 : Value) (hw1 : mNotL w1 = true) (w2 : Value) (hw2 : mNotL w2 = true) (w3 : Value) (hw3 : mNotL w3 = true), mGo mG (34, List.drop 36 mC34, [w0, w1, w2, w3], [], x) r) (fun y : mM => r = (none, y)) o) : ∀ (w3 : Value) (hw3 : mNotL w3 = true), mGo mG (34, List.drop 4 mC34, [.ref p0, .int s.1, .int s.2.1, w3], [], s.2.2) r :=
  mLoop_go (Hd := (fun s' : Int32 × Int32 × mM => ∀ (w3 : Value) (hw3 : mNotL w3 = true), mGo mG (34, List.drop 4 mC34, [.ref p0, .int s'.1, .int s'.2.1, w3], [], s'.2.2) r)) (fun s o hb hC => t34L4 p0 s o hb hC) n s o hr hC
def s34 (μ : mM) (a0 : Nat) : Option mM :=
  (mLoop (s34L4 a0) 1000 ((-1), 0, μ)).bind fun o11 => Sum.elim (fun x12 => some x12) (fun y13 => some y13) o11
set_option maxRecDepth 20000 in
theorem t34 {μ : mM} {a0 : Nat} {o : mM} (hr : s34 μ a0 = some o) : mEv mG 34 [.ref a0] μ (none) (o) := by
  obtain ⟨r, hC⟩ : ∃ r : Option Value × mM, r = (none, o) := ⟨_, rfl⟩
  show mGo mG (34, List.drop 0 mC34, [.ref a0, .retAddr 0, .retAddr 0, .retAddr 0], [], μ) (none, o)
  rw [← hC]
  unfold s34 at hr
  refine mGo.steps 4 (c' := (34, List.drop 4 mC34, [.ref a0, .int (-1), .int 0, .retAddr 0], [], μ)) rfl ?_
  obtain ⟨o11, h14, hr⟩ := mBi hr
  refine t34L4l a0 1000 ((-1), 0, μ) o11 h14 ?_ (.retAddr 0) rfl
  cases o11 with
  | inl x12 =>
    show ∀ (w0 : Value) (hw0 : mNotL w0 = true) (w1 : Value) (hw1 : mNotL w1 = true) (w2 : Value) (hw2 : mNotL w2 = true) (w3 : Value) (hw3 : mNotL w3 = true), mGo mG (34, List.drop 36 mC34, [w0, w1, w2, w3], [], x12) r
    intro w0 hw0 w1 hw1 w2 hw2 w3 hw3
    replace hr : (_) = some _ := hr
    obtain rfl := Option.some.inj hr
    rw [show r = _ from hC]
    exact gVret rfl
  | inr y13 =>
    obtain rfl := Option.some.inj hr
    exact hC

/-! 132: TunnelFabric.isDirection(I)Z -/
def s132_8 (μ : mM) (a0 : Int32) (t0 : Int32) : Option Int32 :=
  if t0 = 0 ∨ t0 = 1 then some t0 else none
set_option maxRecDepth 20000 in
theorem t132_8 (μ : mM) (a0 : Int32) (t0 : Int32) (w0 : Value) (hw0 : mNotL w0 = true) {o : Int32} {r : Option Value × mM} (hr : s132_8 μ a0 t0 = some o) (hC : r = (some (.int o), μ)) : mGo mG (132, List.drop 8 mC132, [w0], [.int t0], μ) r := by
  unfold s132_8 at hr
  obtain ⟨h1, hr⟩ := mIf hr
  obtain rfl := Option.some.inj hr
  rw [show r = _ from hC]
  exact gZret rfl h1
def s132_5 (μ : mM) (a0 : Int32) : Option Int32 :=
  s132_8 μ a0 1
set_option maxRecDepth 20000 in
theorem t132_5 (μ : mM) (a0 : Int32) (w0 : Value) (hw0 : mNotL w0 = true) {o : Int32} {r : Option Value × mM} (hr : s132_5 μ a0 = some o) (hC : r = (some (.int o), μ)) : mGo mG (132, List.drop 5 mC132, [w0], [], μ) r := by
  unfold s132_5 at hr
  refine mGo.steps 2 (c' := (132, List.drop 8 mC132, [w0], [.int 1], μ)) rfl ?_
  exact t132_8 μ a0 1 w0 hw0 hr hC
def s132 (μ : mM) (a0 : Int32) : Option Int32 :=
  if a0 = 0 then (s132_5 μ a0) else (if ¬ a0 = 1 then (s132_8 μ a0 0) else (s132_5 μ a0))
set_option maxRecDepth 20000 in
theorem t132 {μ : mM} {a0 : Int32} {o : Int32} (hr : s132 μ a0 = some o) : mEv mG 132 [.int a0] μ (some (.int o)) (μ) := by
  obtain ⟨r, hC⟩ : ∃ r : Option Value × mM, r = (some (.int o), μ) := ⟨_, rfl⟩
  show mGo mG (132, List.drop 0 mC132, [.int a0], [], μ) (some (.int o), μ)
  rw [← hC]
  unfold s132 at hr
  refine mGo.steps 1 (c' := (132, List.drop 1 mC132, [.int a0], [.int a0], μ)) rfl ?_
  rcases mIte hr with ⟨h3, hr⟩ | ⟨h3, hr⟩
  · refine gBrT (p := a0 = 0) (y := 132) (is := List.drop 2 mC132) (L := [.int a0]) (st := []) (μ := μ) (t := 9) rfl h3 ?_
    exact t132_5 μ a0 (.int a0) rfl hr hC
  · refine gBrF (p := a0 = 0) (y := 132) (is := List.drop 2 mC132) (L := [.int a0]) (st := []) (μ := μ) (t := 9) rfl h3 ?_
    refine mGo.steps 2 (c' := (132, List.drop 4 mC132, [.int a0], [.int 1, .int a0], μ)) rfl ?_
    rcases mIte hr with ⟨h2, hr⟩ | ⟨h2, hr⟩
    · refine gBrT (p := ¬ a0 = 1) (y := 132) (is := List.drop 5 mC132) (L := [.int a0]) (st := []) (μ := μ) (t := 13) rfl h2 ?_
      refine mGo.steps 1 (c' := (132, List.drop 8 mC132, [.int a0], [.int 0], μ)) rfl ?_
      exact t132_8 μ a0 0 (.int a0) rfl hr hC
    · refine gBrF (p := ¬ a0 = 1) (y := 132) (is := List.drop 5 mC132) (L := [.int a0]) (st := []) (μ := μ) (t := 13) rfl h2 ?_
      exact t132_5 μ a0 (.int a0) rfl hr hC

/-! 36: TunnelFabric$Fabric.creditsLeft(II)I -/
def s36L15_48 (μ : mM) (p0 : Nat) (p1 : Int32) (p2 : Int32) (v3 : Int32) (v4 : Int32) : Option ((Int32 × Int32) ⊕ ((Int32) ⊕ Int32)) :=
  some (.inl (v3, v4 + 1))
set_option maxRecDepth 20000 in
theorem t36L15_48 (μ : mM) (p0 : Nat) (p1 : Int32) (p2 : Int32) (v3 : Int32) (v4 : Int32) (w5 : Value) (hw5 : mNotL w5 = true) (w6 : Value) (hw6 : mNotL w6 = true) {o : ((Int32 × Int32) ⊕ ((Int32) ⊕ Int32))} {r : Option Value × mM} (hr : s36L15_48 μ p0 p1 p2 v3 v4 = some o) (hC : Sum.elim (fun s' : Int32 × Int32 => ∀ (w5 : Value) (hw5 : mNotL w5 = true) (w6 : Value) (hw6 : mNotL w6 = true), mGo mG (36, List.drop 15 mC36, [.ref p0, .int p1, .int p2, .int s'.1, .int s'.2, w5, w6], [], μ) r) (Sum.elim (fun x : Int32 => ∀ (w0 : Value) (hw0 : mNotL w0 = true) (w1 : Value) (hw1 : mNotL w1 = true) (w2 : Value) (hw2 : mNotL w2 = true) (w4 : Value) (hw4 : mNotL w4 = true) (w5 : Value) (hw5 : mNotL w5 = true) (w6 : Value) (hw6 : mNotL w6 = true), mGo mG (36, List.drop 50 mC36, [w0, w1, w2, .int x, w4, w5, w6], [], μ) r) (fun y : Int32 => r = (some (.int y), μ))) o) : mGo mG (36, List.drop 48 mC36, [.ref p0, .int p1, .int p2, .int v3, .int v4, w5, w6], [], μ) r := by
  unfold s36L15_48 at hr
  refine mGo.steps 2 (c' := (36, List.drop 15 mC36, [.ref p0, .int p1, .int p2, .int v3, .int (v4 + 1), w5, w6], [], μ)) rfl ?_
  obtain rfl := Option.some.inj hr
  exact hC w5 hw5 w6 hw6
def s36L15_36 (μ : mM) (p0 : Nat) (p1 : Int32) (p2 : Int32) (v3 : Int32) (v4 : Int32) (v5 : Nat) (t0 : Int32) : Option ((Int32 × Int32) ⊕ ((Int32) ⊕ Int32)) :=
  if (mS μ v5).1 = 7 then (s89 μ v5 t0).bind fun q15 => if q15 = 0 then (s36L15_48 μ p0 p1 p2 v3 v4) else (if (mS μ (mP μ v5 6)).1 = 10 ∧ mInb t0 (mS μ (mP μ v5 6)).2 then s36L15_48 μ p0 p1 p2 (v3 - (mI μ (mP μ v5 6) (Int32.toNatClampNeg t0))) v4 else none) else none
set_option maxRecDepth 20000 in
theorem t36L15_36 (μ : mM) (p0 : Nat) (p1 : Int32) (p2 : Int32) (v3 : Int32) (v4 : Int32) (v5 : Nat) (t0 : Int32) (w6 : Value) (hw6 : mNotL w6 = true) {o : ((Int32 × Int32) ⊕ ((Int32) ⊕ Int32))} {r : Option Value × mM} (hr : s36L15_36 μ p0 p1 p2 v3 v4 v5 t0 = some o) (hC : Sum.elim (fun s' : Int32 × Int32 => ∀ (w5 : Value) (hw5 : mNotL w5 = true) (w6 : Value) (hw6 : mNotL w6 = true), mGo mG (36, List.drop 15 mC36, [.ref p0, .int p1, .int p2, .int s'.1, .int s'.2, w5, w6], [], μ) r) (Sum.elim (fun x : Int32 => ∀ (w0 : Value) (hw0 : mNotL w0 = true) (w1 : Value) (hw1 : mNotL w1 = true) (w2 : Value) (hw2 : mNotL w2 = true) (w4 : Value) (hw4 : mNotL w4 = true) (w5 : Value) (hw5 : mNotL w5 = true) (w6 : Value) (hw6 : mNotL w6 = true), mGo mG (36, List.drop 50 mC36, [w0, w1, w2, .int x, w4, w5, w6], [], μ) r) (fun y : Int32 => r = (some (.int y), μ))) o) : mGo mG (36, List.drop 36 mC36, [.ref p0, .int p1, .int p2, .int v3, .int v4, .ref v5, w6], [.int t0], μ) r := by
  unfold s36L15_36 at hr
  refine mGo.steps 3 (c' := (36, List.drop 39 mC36, [.ref p0, .int p1, .int p2, .int v3, .int v4, .ref v5, .int t0], [.int t0, .ref v5], μ)) rfl ?_
  obtain ⟨h14, hr⟩ := mIf hr
  obtain ⟨q15, h16, hr⟩ := mBi hr
  refine gCall (z := 89) (n := 1) (f := 0) (kind := 1) (a := v5) (As := [.int t0]) (y := 36) (is := List.drop 40 mC36) (L := [.ref p0, .int p1, .int p2, .int v3, .int v4, .ref v5, .int t0]) (rest := []) (μ := μ) rfl (by decide) (by decide) ⟨rfl, rfl⟩ rfl h14 (Nat.le_of_ble_eq_true rfl) (Nat.le_of_ble_eq_true rfl) (t89 h16) ?_
  rcases mIte hr with ⟨h18, hr⟩ | ⟨h18, hr⟩
  · refine gBrT (p := q15 = 0) (y := 36) (is := List.drop 41 mC36) (L := [.ref p0, .int p1, .int p2, .int v3, .int v4, .ref v5, .int t0]) (st := []) (μ := μ) (t := 92) rfl h18 ?_
    exact t36L15_48 μ p0 p1 p2 v3 v4 (.ref v5) rfl (.int t0) rfl hr hC
  · refine gBrF (p := q15 = 0) (y := 36) (is := List.drop 41 mC36) (L := [.ref p0, .int p1, .int p2, .int v3, .int v4, .ref v5, .int t0]) (st := []) (μ := μ) (t := 92) rfl h18 ?_
    refine mGo.steps 2 (c' := (36, List.drop 43 mC36, [.ref p0, .int p1, .int p2, .int v3, .int v4, .ref v5, .int t0], [.ref v5, .int v3], μ)) rfl ?_
    refine gGet (is := List.drop 44 mC36) (v := .ref (mP μ v5 6)) h14 rfl ?_
    refine mGo.steps 1 (c' := (36, List.drop 45 mC36, [.ref p0, .int p1, .int p2, .int v3, .int v4, .ref v5, .int t0], [.int t0, .ref (mP μ v5 6), .int v3], μ)) rfl ?_
    obtain ⟨h17, hr⟩ := mIf hr
    refine gIald (is := List.drop 46 mC36) h17 ?_
    refine mGo.steps 2 (c' := (36, List.drop 48 mC36, [.ref p0, .int p1, .int p2, .int (v3 - (mI μ (mP μ v5 6) (Int32.toNatClampNeg t0))), .int v4, .ref v5, .int t0], [], μ)) rfl ?_
    exact t36L15_48 μ p0 p1 p2 (v3 - (mI μ (mP μ v5 6) (Int32.toNatClampNeg t0))) v4 (.ref v5) rfl (.int t0) rfl hr hC
def s36L15 (μ : mM) (p0 : Nat) (p1 : Int32) (p2 : Int32) (s : Int32 × Int32) : Option ((Int32 × Int32) ⊕ ((Int32) ⊕ Int32)) :=
  if 10 ≤ s.2 then (some (.inr (.inl s.1))) else (if (mS μ p0).1 = 1 then if (mS μ (mP μ p0 1)).1 = 20 + 6 ∧ mInb s.2 (mS μ (mP μ p0 1)).2 then if (mS μ (mP μ (mP μ p0 1) (Int32.toNatClampNeg s.2))).1 = 6 then (s78 μ (mP μ (mP μ p0 1) (Int32.toNatClampNeg s.2)) p2).bind fun q12 => if (mI μ (mP μ (mP μ p0 1) (Int32.toNatClampNeg s.2)) 0) = 0 then (s36L15_36 μ p0 p1 p2 s.1 s.2 q12 (-1)) else (if (mS μ q12).1 = 7 then (s90 μ q12 p1).bind fun q20 => s36L15_36 μ p0 p1 p2 s.1 s.2 q12 q20 else none) else none else none else none)
set_option maxRecDepth 20000 in
theorem t36L15 (μ : mM) (p0 : Nat) (p1 : Int32) (p2 : Int32) {r : Option Value × mM} (s : Int32 × Int32) (o : ((Int32 × Int32) ⊕ ((Int32) ⊕ Int32))) (hr : s36L15 μ p0 p1 p2 s = some o) (hC : Sum.elim (fun s' : Int32 × Int32 => ∀ (w5 : Value) (hw5 : mNotL w5 = true) (w6 : Value) (hw6 : mNotL w6 = true), mGo mG (36, List.drop 15 mC36, [.ref p0, .int p1, .int p2, .int s'.1, .int s'.2, w5, w6], [], μ) r) (Sum.elim (fun x : Int32 => ∀ (w0 : Value) (hw0 : mNotL w0 = true) (w1 : Value) (hw1 : mNotL w1 = true) (w2 : Value) (hw2 : mNotL w2 = true) (w4 : Value) (hw4 : mNotL w4 = true) (w5 : Value) (hw5 : mNotL w5 = true) (w6 : Value) (hw6 : mNotL w6 = true), mGo mG (36, List.drop 50 mC36, [w0, w1, w2, .int x, w4, w5, w6], [], μ) r) (fun y : Int32 => r = (some (.int y), μ))) o) : ∀ (w5 : Value) (hw5 : mNotL w5 = true) (w6 : Value) (hw6 : mNotL w6 = true), mGo mG (36, List.drop 15 mC36, [.ref p0, .int p1, .int p2, .int s.1, .int s.2, w5, w6], [], μ) r := by
  intro w5 hw5 w6 hw6
  unfold s36L15 at hr
  refine mGo.steps 2 (c' := (36, List.drop 17 mC36, [.ref p0, .int p1, .int p2, .int s.1, .int s.2, w5, w6], [.int 10, .int s.2], μ)) rfl ?_
  rcases mIte hr with ⟨h23, hr⟩ | ⟨h23, hr⟩
  · refine gBrT (p := 10 ≤ s.2) (y := 36) (is := List.drop 18 mC36) (L := [.ref p0, .int p1, .int p2, .int s.1, .int s.2, w5, w6]) (st := []) (μ := μ) (t := 98) rfl h23 ?_
    obtain rfl := Option.some.inj hr
    exact hC (.ref p0) rfl (.int p1) rfl (.int p2) rfl (.int s.2) rfl w5 hw5 w6 hw6
  · refine gBrF (p := 10 ≤ s.2) (y := 36) (is := List.drop 18 mC36) (L := [.ref p0, .int p1, .int p2, .int s.1, .int s.2, w5, w6]) (st := []) (μ := μ) (t := 98) rfl h23 ?_
    refine mGo.steps 1 (c' := (36, List.drop 19 mC36, [.ref p0, .int p1, .int p2, .int s.1, .int s.2, w5, w6], [.ref p0], μ)) rfl ?_
    obtain ⟨h9, hr⟩ := mIf hr
    refine gGet (is := List.drop 20 mC36) (v := .ref (mP μ p0 1)) h9 rfl ?_
    refine mGo.steps 1 (c' := (36, List.drop 21 mC36, [.ref p0, .int p1, .int p2, .int s.1, .int s.2, w5, w6], [.int s.2, .ref (mP μ p0 1)], μ)) rfl ?_
    obtain ⟨h10, hr⟩ := mIf hr
    refine gAald (is := List.drop 22 mC36) h10 ?_
    refine mGo.steps 1 (c' := (36, List.drop 23 mC36, [.ref p0, .int p1, .int p2, .int s.1, .int s.2, w5, w6], [.int p2, .ref (mP μ (mP μ p0 1) (Int32.toNatClampNeg s.2))], μ)) rfl ?_
    obtain ⟨h11, hr⟩ := mIf hr
    obtain ⟨q12, h13, hr⟩ := mBi hr
    refine gCall (z := 78) (n := 1) (f := 0) (kind := 1) (a := (mP μ (mP μ p0 1) (Int32.toNatClampNeg s.2))) (As := [.int p2]) (y := 36) (is := List.drop 24 mC36) (L := [.ref p0, .int p1, .int p2, .int s.1, .int s.2, w5, w6]) (rest := []) (μ := μ) rfl (by decide) (by decide) ⟨rfl, rfl⟩ rfl h11 (Nat.le_of_ble_eq_true rfl) (Nat.le_of_ble_eq_true rfl) (t78 h13) ?_
    refine mGo.steps 2 (c' := (36, List.drop 26 mC36, [.ref p0, .int p1, .int p2, .int s.1, .int s.2, .ref q12, w6], [.ref p0], μ)) rfl ?_
    refine gGet (is := List.drop 27 mC36) (v := .ref (mP μ p0 1)) h9 rfl ?_
    refine mGo.steps 1 (c' := (36, List.drop 28 mC36, [.ref p0, .int p1, .int p2, .int s.1, .int s.2, .ref q12, w6], [.int s.2, .ref (mP μ p0 1)], μ)) rfl ?_
    refine gAald (is := List.drop 29 mC36) h10 ?_
    refine gGet (is := List.drop 30 mC36) (v := .int (mI μ (mP μ (mP μ p0 1) (Int32.toNatClampNeg s.2)) 0)) h11 rfl ?_
    rcases mIte hr with ⟨h22, hr⟩ | ⟨h22, hr⟩
    · refine gBrT (p := (mI μ (mP μ (mP μ p0 1) (Int32.toNatClampNeg s.2)) 0) = 0) (y := 36) (is := List.drop 31 mC36) (L := [.ref p0, .int p1, .int p2, .int s.1, .int s.2, .ref q12, w6]) (st := []) (μ := μ) (t := 68) rfl h22 ?_
      refine mGo.steps 1 (c' := (36, List.drop 36 mC36, [.ref p0, .int p1, .int p2, .int s.1, .int s.2, .ref q12, w6], [.int (-1)], μ)) rfl ?_
      exact t36L15_36 μ p0 p1 p2 s.1 s.2 q12 (-1) w6 hw6 hr hC
    · refine gBrF (p := (mI μ (mP μ (mP μ p0 1) (Int32.toNatClampNeg s.2)) 0) = 0) (y := 36) (is := List.drop 31 mC36) (L := [.ref p0, .int p1, .int p2, .int s.1, .int s.2, .ref q12, w6]) (st := []) (μ := μ) (t := 68) rfl h22 ?_
      refine mGo.steps 2 (c' := (36, List.drop 33 mC36, [.ref p0, .int p1, .int p2, .int s.1, .int s.2, .ref q12, w6], [.int p1, .ref q12], μ)) rfl ?_
      obtain ⟨h19, hr⟩ := mIf hr
      obtain ⟨q20, h21, hr⟩ := mBi hr
      refine gCall (z := 90) (n := 1) (f := 0) (kind := 1) (a := q12) (As := [.int p1]) (y := 36) (is := List.drop 34 mC36) (L := [.ref p0, .int p1, .int p2, .int s.1, .int s.2, .ref q12, w6]) (rest := []) (μ := μ) rfl (by decide) (by decide) ⟨rfl, rfl⟩ rfl h19 (Nat.le_of_ble_eq_true rfl) (Nat.le_of_ble_eq_true rfl) (t90 h21) ?_
      refine mGo.steps 1 (c' := (36, List.drop 36 mC36, [.ref p0, .int p1, .int p2, .int s.1, .int s.2, .ref q12, w6], [.int q20], μ)) rfl ?_
      exact t36L15_36 μ p0 p1 p2 s.1 s.2 q12 q20 w6 hw6 hr hC
theorem t36L15l (μ : mM) (p0 : Nat) (p1 : Int32) (p2 : Int32) {r : Option Value × mM} (n : Nat) (s : Int32 × Int32) (o : (Int32) ⊕ Int32) (hr : mLoop (s36L15 μ p0 p1 p2) n s = some o) (hC : Sum.elim (fun x : Int32 => ∀ (w0 : Value) (hw0 : mNotL w0 = true) (w1 : Value) (hw1 : mNotL w1 = true) (w2 : Value) (hw2 : mNotL w2 = true) (w4 : Value) (hw4 : mNotL w4 = true) (w5 : Value) (hw5 : mNotL w5 = true) (w6 : Value) (hw6 : mNotL w6 = true), mGo mG (36, List.drop 50 mC36, [w0, w1, w2, .int x, w4, w5, w6], [], μ) r) (fun y : Int32 => r = (some (.int y), μ)) o) : ∀ (w5 : Value) (hw5 : mNotL w5 = true) (w6 : Value) (hw6 : mNotL w6 = true), mGo mG (36, List.drop 15 mC36, [.ref p0, .int p1, .int p2, .int s.1, .int s.2, w5, w6], [], μ) r :=
  mLoop_go (Hd := (fun s' : Int32 × Int32 => ∀ (w5 : Value) (hw5 : mNotL w5 = true) (w6 : Value) (hw6 : mNotL w6 = true), mGo mG (36, List.drop 15 mC36, [.ref p0, .int p1, .int p2, .int s'.1, .int s'.2, w5, w6], [], μ) r)) (fun s o hb hC => t36L15 μ p0 p1 p2 s o hb hC) n s o hr hC
def s36 (μ : mM) (a0 : Nat) (a1 : Int32) (a2 : Int32) : Option Int32 :=
  (s132 μ a2).bind fun q1 => if ¬ q1 = 0 then (if (mS μ a0).1 = 1 then (s18 μ a0 a1).bind fun q4 => if (mS μ q4).1 = 4 then if (mS μ (mP μ q4 6)).1 = 2 then if (mS μ (mP μ (mP μ q4 6) 5)).1 = 10 ∧ mInb a2 (mS μ (mP μ (mP μ q4 6) 5)).2 then (mLoop (s36L15 μ a0 a1 a2) 1000 (mI μ (mP μ (mP μ q4 6) 5) (Int32.toNatClampNeg a2), 0)).bind fun o24 => Sum.elim (fun x25 => some x25) (fun y26 => some y26) o24 else none else none else none else none) else (some 0)
set_option maxRecDepth 20000 in
theorem t36 {μ : mM} {a0 : Nat} {a1 : Int32} {a2 : Int32} {o : Int32} (hr : s36 μ a0 a1 a2 = some o) : mEv mG 36 [.ref a0, .int a1, .int a2] μ (some (.int o)) (μ) := by
  obtain ⟨r, hC⟩ : ∃ r : Option Value × mM, r = (some (.int o), μ) := ⟨_, rfl⟩
  show mGo mG (36, List.drop 0 mC36, [.ref a0, .int a1, .int a2, .retAddr 0, .retAddr 0, .retAddr 0, .retAddr 0], [], μ) (some (.int o), μ)
  rw [← hC]
  unfold s36 at hr
  refine mGo.steps 1 (c' := (36, List.drop 1 mC36, [.ref a0, .int a1, .int a2, .retAddr 0, .retAddr 0, .retAddr 0, .retAddr 0], [.int a2], μ)) rfl ?_
  obtain ⟨q1, h2, hr⟩ := mBi hr
  refine mGo.call (z := 132) (as := [.int a2]) (y := 36) (is := List.drop 2 mC36) (L := [.ref a0, .int a1, .int a2, .retAddr 0, .retAddr 0, .retAddr 0, .retAddr 0]) (st := []) (μ := μ) rfl (t132 h2) ?_
  rcases mIte hr with ⟨h28, hr⟩ | ⟨h28, hr⟩
  · refine gBrT (p := ¬ q1 = 0) (y := 36) (is := List.drop 3 mC36) (L := [.ref a0, .int a1, .int a2, .retAddr 0, .retAddr 0, .retAddr 0, .retAddr 0]) (st := []) (μ := μ) (t := 9) rfl h28 ?_
    refine mGo.steps 2 (c' := (36, List.drop 7 mC36, [.ref a0, .int a1, .int a2, .retAddr 0, .retAddr 0, .retAddr 0, .retAddr 0], [.int a1, .ref a0], μ)) rfl ?_
    obtain ⟨h3, hr⟩ := mIf hr
    obtain ⟨q4, h5, hr⟩ := mBi hr
    refine gCall (z := 18) (n := 1) (f := 0) (kind := 1) (a := a0) (As := [.int a1]) (y := 36) (is := List.drop 8 mC36) (L := [.ref a0, .int a1, .int a2, .retAddr 0, .retAddr 0, .retAddr 0, .retAddr 0]) (rest := []) (μ := μ) rfl (by decide) (by decide) ⟨rfl, rfl⟩ rfl h3 (Nat.le_of_ble_eq_true rfl) (Nat.le_of_ble_eq_true rfl) (t18 h5) ?_
    obtain ⟨h6, hr⟩ := mIf hr
    refine gGet (is := List.drop 9 mC36) (v := .ref (mP μ q4 6)) h6 rfl ?_
    obtain ⟨h7, hr⟩ := mIf hr
    refine gGet (is := List.drop 10 mC36) (v := .ref (mP μ (mP μ q4 6) 5)) h7 rfl ?_
    refine mGo.steps 1 (c' := (36, List.drop 11 mC36, [.ref a0, .int a1, .int a2, .retAddr 0, .retAddr 0, .retAddr 0, .retAddr 0], [.int a2, .ref (mP μ (mP μ q4 6) 5)], μ)) rfl ?_
    obtain ⟨h8, hr⟩ := mIf hr
    refine gIald (is := List.drop 12 mC36) h8 ?_
    refine mGo.steps 3 (c' := (36, List.drop 15 mC36, [.ref a0, .int a1, .int a2, .int (mI μ (mP μ (mP μ q4 6) 5) (Int32.toNatClampNeg a2)), .int 0, .retAddr 0, .retAddr 0], [], μ)) rfl ?_
    obtain ⟨o24, h27, hr⟩ := mBi hr
    refine t36L15l μ a0 a1 a2 1000 (mI μ (mP μ (mP μ q4 6) 5) (Int32.toNatClampNeg a2), 0) o24 h27 ?_ (.retAddr 0) rfl (.retAddr 0) rfl
    cases o24 with
    | inl x25 =>
      show ∀ (w0 : Value) (hw0 : mNotL w0 = true) (w1 : Value) (hw1 : mNotL w1 = true) (w2 : Value) (hw2 : mNotL w2 = true) (w4 : Value) (hw4 : mNotL w4 = true) (w5 : Value) (hw5 : mNotL w5 = true) (w6 : Value) (hw6 : mNotL w6 = true), mGo mG (36, List.drop 50 mC36, [w0, w1, w2, .int x25, w4, w5, w6], [], μ) r
      intro w0 hw0 w1 hw1 w2 hw2 w4 hw4 w5 hw5 w6 hw6
      replace hr : (_) = some _ := hr
      refine mGo.steps 1 (c' := (36, List.drop 51 mC36, [w0, w1, w2, .int x25, w4, w5, w6], [.int x25], μ)) rfl ?_
      obtain rfl := Option.some.inj hr
      rw [show r = _ from hC]
      exact gIret rfl
    | inr y26 =>
      obtain rfl := Option.some.inj hr
      exact hC
  · refine gBrF (p := ¬ q1 = 0) (y := 36) (is := List.drop 3 mC36) (L := [.ref a0, .int a1, .int a2, .retAddr 0, .retAddr 0, .retAddr 0, .retAddr 0]) (st := []) (μ := μ) (t := 9) rfl h28 ?_
    refine mGo.steps 1 (c' := (36, List.drop 4 mC36, [.ref a0, .int a1, .int a2, .retAddr 0, .retAddr 0, .retAddr 0, .retAddr 0], [.int 0], μ)) rfl ?_
    obtain rfl := Option.some.inj hr
    rw [show r = _ from hC]
    exact gIret rfl

/-! 38: TunnelFabric$Fabric.isTaken(III)Z -/
def s38L2_36 (μ : mM) (p0 : Nat) (p1 : Int32) (p2 : Int32) (p3 : Int32) (v4 : Int32) : Option ((Int32) ⊕ ((Unit) ⊕ Int32)) :=
  some (.inl (v4 + 1))
set_option maxRecDepth 20000 in
theorem t38L2_36 (μ : mM) (p0 : Nat) (p1 : Int32) (p2 : Int32) (p3 : Int32) (v4 : Int32) (w5 : Value) (hw5 : mNotL w5 = true) (w6 : Value) (hw6 : mNotL w6 = true) {o : ((Int32) ⊕ ((Unit) ⊕ Int32))} {r : Option Value × mM} (hr : s38L2_36 μ p0 p1 p2 p3 v4 = some o) (hC : Sum.elim (fun s' : Int32 => ∀ (w5 : Value) (hw5 : mNotL w5 = true) (w6 : Value) (hw6 : mNotL w6 = true), mGo mG (38, List.drop 2 mC38, [.ref p0, .int p1, .int p2, .int p3, .int s', w5, w6], [], μ) r) (Sum.elim (fun x : Unit => ∀ (w0 : Value) (hw0 : mNotL w0 = true) (w1 : Value) (hw1 : mNotL w1 = true) (w2 : Value) (hw2 : mNotL w2 = true) (w3 : Value) (hw3 : mNotL w3 = true) (w4 : Value) (hw4 : mNotL w4 = true) (w5 : Value) (hw5 : mNotL w5 = true) (w6 : Value) (hw6 : mNotL w6 = true), mGo mG (38, List.drop 38 mC38, [w0, w1, w2, w3, w4, w5, w6], [], μ) r) (fun y : Int32 => r = (some (.int y), μ))) o) : mGo mG (38, List.drop 36 mC38, [.ref p0, .int p1, .int p2, .int p3, .int v4, w5, w6], [], μ) r := by
  unfold s38L2_36 at hr
  refine mGo.steps 2 (c' := (38, List.drop 2 mC38, [.ref p0, .int p1, .int p2, .int p3, .int (v4 + 1), w5, w6], [], μ)) rfl ?_
  obtain rfl := Option.some.inj hr
  exact hC w5 hw5 w6 hw6
def s38L2_23 (μ : mM) (p0 : Nat) (p1 : Int32) (p2 : Int32) (p3 : Int32) (v4 : Int32) (v5 : Nat) (t0 : Int32) : Option ((Int32) ⊕ ((Unit) ⊕ Int32)) :=
  if (mS μ v5).1 = 7 then (s89 μ v5 t0).bind fun q7 => if q7 = 0 then (s38L2_36 μ p0 p1 p2 p3 v4) else (if (mS μ (mP μ v5 5)).1 = 10 ∧ mInb t0 (mS μ (mP μ v5 5)).2 then if ¬ (mI μ (mP μ v5 5) (Int32.toNatClampNeg t0)) = p1 then (s38L2_36 μ p0 p1 p2 p3 v4) else (some (.inr (.inr 1))) else none) else none
set_option maxRecDepth 20000 in
theorem t38L2_23 (μ : mM) (p0 : Nat) (p1 : Int32) (p2 : Int32) (p3 : Int32) (v4 : Int32) (v5 : Nat) (t0 : Int32) (w6 : Value) (hw6 : mNotL w6 = true) {o : ((Int32) ⊕ ((Unit) ⊕ Int32))} {r : Option Value × mM} (hr : s38L2_23 μ p0 p1 p2 p3 v4 v5 t0 = some o) (hC : Sum.elim (fun s' : Int32 => ∀ (w5 : Value) (hw5 : mNotL w5 = true) (w6 : Value) (hw6 : mNotL w6 = true), mGo mG (38, List.drop 2 mC38, [.ref p0, .int p1, .int p2, .int p3, .int s', w5, w6], [], μ) r) (Sum.elim (fun x : Unit => ∀ (w0 : Value) (hw0 : mNotL w0 = true) (w1 : Value) (hw1 : mNotL w1 = true) (w2 : Value) (hw2 : mNotL w2 = true) (w3 : Value) (hw3 : mNotL w3 = true) (w4 : Value) (hw4 : mNotL w4 = true) (w5 : Value) (hw5 : mNotL w5 = true) (w6 : Value) (hw6 : mNotL w6 = true), mGo mG (38, List.drop 38 mC38, [w0, w1, w2, w3, w4, w5, w6], [], μ) r) (fun y : Int32 => r = (some (.int y), μ))) o) : mGo mG (38, List.drop 23 mC38, [.ref p0, .int p1, .int p2, .int p3, .int v4, .ref v5, w6], [.int t0], μ) r := by
  unfold s38L2_23 at hr
  refine mGo.steps 3 (c' := (38, List.drop 26 mC38, [.ref p0, .int p1, .int p2, .int p3, .int v4, .ref v5, .int t0], [.int t0, .ref v5], μ)) rfl ?_
  obtain ⟨h6, hr⟩ := mIf hr
  obtain ⟨q7, h8, hr⟩ := mBi hr
  refine gCall (z := 89) (n := 1) (f := 0) (kind := 1) (a := v5) (As := [.int t0]) (y := 38) (is := List.drop 27 mC38) (L := [.ref p0, .int p1, .int p2, .int p3, .int v4, .ref v5, .int t0]) (rest := []) (μ := μ) rfl (by decide) (by decide) ⟨rfl, rfl⟩ rfl h6 (Nat.le_of_ble_eq_true rfl) (Nat.le_of_ble_eq_true rfl) (t89 h8) ?_
  rcases mIte hr with ⟨h11, hr⟩ | ⟨h11, hr⟩
  · refine gBrT (p := q7 = 0) (y := 38) (is := List.drop 28 mC38) (L := [.ref p0, .int p1, .int p2, .int p3, .int v4, .ref v5, .int t0]) (st := []) (μ := μ) (t := 72) rfl h11 ?_
    exact t38L2_36 μ p0 p1 p2 p3 v4 (.ref v5) rfl (.int t0) rfl hr hC
  · refine gBrF (p := q7 = 0) (y := 38) (is := List.drop 28 mC38) (L := [.ref p0, .int p1, .int p2, .int p3, .int v4, .ref v5, .int t0]) (st := []) (μ := μ) (t := 72) rfl h11 ?_
    refine mGo.steps 1 (c' := (38, List.drop 29 mC38, [.ref p0, .int p1, .int p2, .int p3, .int v4, .ref v5, .int t0], [.ref v5], μ)) rfl ?_
    refine gGet (is := List.drop 30 mC38) (v := .ref (mP μ v5 5)) h6 rfl ?_
    refine mGo.steps 1 (c' := (38, List.drop 31 mC38, [.ref p0, .int p1, .int p2, .int p3, .int v4, .ref v5, .int t0], [.int t0, .ref (mP μ v5 5)], μ)) rfl ?_
    obtain ⟨h9, hr⟩ := mIf hr
    refine gIald (is := List.drop 32 mC38) h9 ?_
    refine mGo.steps 1 (c' := (38, List.drop 33 mC38, [.ref p0, .int p1, .int p2, .int p3, .int v4, .ref v5, .int t0], [.int p1, .int (mI μ (mP μ v5 5) (Int32.toNatClampNeg t0))], μ)) rfl ?_
    rcases mIte hr with ⟨h10, hr⟩ | ⟨h10, hr⟩
    · refine gBrT (p := ¬ (mI μ (mP μ v5 5) (Int32.toNatClampNeg t0)) = p1) (y := 38) (is := List.drop 34 mC38) (L := [.ref p0, .int p1, .int p2, .int p3, .int v4, .ref v5, .int t0]) (st := []) (μ := μ) (t := 72) rfl h10 ?_
      exact t38L2_36 μ p0 p1 p2 p3 v4 (.ref v5) rfl (.int t0) rfl hr hC
    · refine gBrF (p := ¬ (mI μ (mP μ v5 5) (Int32.toNatClampNeg t0)) = p1) (y := 38) (is := List.drop 34 mC38) (L := [.ref p0, .int p1, .int p2, .int p3, .int v4, .ref v5, .int t0]) (st := []) (μ := μ) (t := 72) rfl h10 ?_
      refine mGo.steps 1 (c' := (38, List.drop 35 mC38, [.ref p0, .int p1, .int p2, .int p3, .int v4, .ref v5, .int t0], [.int 1], μ)) rfl ?_
      obtain rfl := Option.some.inj hr
      rw [show r = _ from hC]
      exact gZret rfl (by decide)
def s38L2 (μ : mM) (p0 : Nat) (p1 : Int32) (p2 : Int32) (p3 : Int32) (s : Int32) : Option ((Int32) ⊕ ((Unit) ⊕ Int32)) :=
  if 10 ≤ s then (some (.inr (.inl ()))) else (if (mS μ p0).1 = 1 then if (mS μ (mP μ p0 1)).1 = 20 + 6 ∧ mInb s (mS μ (mP μ p0 1)).2 then if (mS μ (mP μ (mP μ p0 1) (Int32.toNatClampNeg s))).1 = 6 then (s78 μ (mP μ (mP μ p0 1) (Int32.toNatClampNeg s)) p3).bind fun q4 => if (mI μ (mP μ (mP μ p0 1) (Int32.toNatClampNeg s)) 0) = 0 then (s38L2_23 μ p0 p1 p2 p3 s q4 (-1)) else (if (mS μ q4).1 = 7 then (s90 μ q4 p2).bind fun q13 => s38L2_23 μ p0 p1 p2 p3 s q4 q13 else none) else none else none else none)
set_option maxRecDepth 20000 in
theorem t38L2 (μ : mM) (p0 : Nat) (p1 : Int32) (p2 : Int32) (p3 : Int32) {r : Option Value × mM} (s : Int32) (o : ((Int32) ⊕ ((Unit) ⊕ Int32))) (hr : s38L2 μ p0 p1 p2 p3 s = some o) (hC : Sum.elim (fun s' : Int32 => ∀ (w5 : Value) (hw5 : mNotL w5 = true) (w6 : Value) (hw6 : mNotL w6 = true), mGo mG (38, List.drop 2 mC38, [.ref p0, .int p1, .int p2, .int p3, .int s', w5, w6], [], μ) r) (Sum.elim (fun x : Unit => ∀ (w0 : Value) (hw0 : mNotL w0 = true) (w1 : Value) (hw1 : mNotL w1 = true) (w2 : Value) (hw2 : mNotL w2 = true) (w3 : Value) (hw3 : mNotL w3 = true) (w4 : Value) (hw4 : mNotL w4 = true) (w5 : Value) (hw5 : mNotL w5 = true) (w6 : Value) (hw6 : mNotL w6 = true), mGo mG (38, List.drop 38 mC38, [w0, w1, w2, w3, w4, w5, w6], [], μ) r) (fun y : Int32 => r = (some (.int y), μ))) o) : ∀ (w5 : Value) (hw5 : mNotL w5 = true) (w6 : Value) (hw6 : mNotL w6 = true), mGo mG (38, List.drop 2 mC38, [.ref p0, .int p1, .int p2, .int p3, .int s, w5, w6], [], μ) r := by
  intro w5 hw5 w6 hw6
  unfold s38L2 at hr
  refine mGo.steps 2 (c' := (38, List.drop 4 mC38, [.ref p0, .int p1, .int p2, .int p3, .int s, w5, w6], [.int 10, .int s], μ)) rfl ?_
  rcases mIte hr with ⟨h16, hr⟩ | ⟨h16, hr⟩
  · refine gBrT (p := 10 ≤ s) (y := 38) (is := List.drop 5 mC38) (L := [.ref p0, .int p1, .int p2, .int p3, .int s, w5, w6]) (st := []) (μ := μ) (t := 78) rfl h16 ?_
    obtain rfl := Option.some.inj hr
    exact hC (.ref p0) rfl (.int p1) rfl (.int p2) rfl (.int p3) rfl (.int s) rfl w5 hw5 w6 hw6
  · refine gBrF (p := 10 ≤ s) (y := 38) (is := List.drop 5 mC38) (L := [.ref p0, .int p1, .int p2, .int p3, .int s, w5, w6]) (st := []) (μ := μ) (t := 78) rfl h16 ?_
    refine mGo.steps 1 (c' := (38, List.drop 6 mC38, [.ref p0, .int p1, .int p2, .int p3, .int s, w5, w6], [.ref p0], μ)) rfl ?_
    obtain ⟨h1, hr⟩ := mIf hr
    refine gGet (is := List.drop 7 mC38) (v := .ref (mP μ p0 1)) h1 rfl ?_
    refine mGo.steps 1 (c' := (38, List.drop 8 mC38, [.ref p0, .int p1, .int p2, .int p3, .int s, w5, w6], [.int s, .ref (mP μ p0 1)], μ)) rfl ?_
    obtain ⟨h2, hr⟩ := mIf hr
    refine gAald (is := List.drop 9 mC38) h2 ?_
    refine mGo.steps 1 (c' := (38, List.drop 10 mC38, [.ref p0, .int p1, .int p2, .int p3, .int s, w5, w6], [.int p3, .ref (mP μ (mP μ p0 1) (Int32.toNatClampNeg s))], μ)) rfl ?_
    obtain ⟨h3, hr⟩ := mIf hr
    obtain ⟨q4, h5, hr⟩ := mBi hr
    refine gCall (z := 78) (n := 1) (f := 0) (kind := 1) (a := (mP μ (mP μ p0 1) (Int32.toNatClampNeg s))) (As := [.int p3]) (y := 38) (is := List.drop 11 mC38) (L := [.ref p0, .int p1, .int p2, .int p3, .int s, w5, w6]) (rest := []) (μ := μ) rfl (by decide) (by decide) ⟨rfl, rfl⟩ rfl h3 (Nat.le_of_ble_eq_true rfl) (Nat.le_of_ble_eq_true rfl) (t78 h5) ?_
    refine mGo.steps 2 (c' := (38, List.drop 13 mC38, [.ref p0, .int p1, .int p2, .int p3, .int s, .ref q4, w6], [.ref p0], μ)) rfl ?_
    refine gGet (is := List.drop 14 mC38) (v := .ref (mP μ p0 1)) h1 rfl ?_
    refine mGo.steps 1 (c' := (38, List.drop 15 mC38, [.ref p0, .int p1, .int p2, .int p3, .int s, .ref q4, w6], [.int s, .ref (mP μ p0 1)], μ)) rfl ?_
    refine gAald (is := List.drop 16 mC38) h2 ?_
    refine gGet (is := List.drop 17 mC38) (v := .int (mI μ (mP μ (mP μ p0 1) (Int32.toNatClampNeg s)) 0)) h3 rfl ?_
    rcases mIte hr with ⟨h15, hr⟩ | ⟨h15, hr⟩
    · refine gBrT (p := (mI μ (mP μ (mP μ p0 1) (Int32.toNatClampNeg s)) 0) = 0) (y := 38) (is := List.drop 18 mC38) (L := [.ref p0, .int p1, .int p2, .int p3, .int s, .ref q4, w6]) (st := []) (μ := μ) (t := 45) rfl h15 ?_
      refine mGo.steps 1 (c' := (38, List.drop 23 mC38, [.ref p0, .int p1, .int p2, .int p3, .int s, .ref q4, w6], [.int (-1)], μ)) rfl ?_
      exact t38L2_23 μ p0 p1 p2 p3 s q4 (-1) w6 hw6 hr hC
    · refine gBrF (p := (mI μ (mP μ (mP μ p0 1) (Int32.toNatClampNeg s)) 0) = 0) (y := 38) (is := List.drop 18 mC38) (L := [.ref p0, .int p1, .int p2, .int p3, .int s, .ref q4, w6]) (st := []) (μ := μ) (t := 45) rfl h15 ?_
      refine mGo.steps 2 (c' := (38, List.drop 20 mC38, [.ref p0, .int p1, .int p2, .int p3, .int s, .ref q4, w6], [.int p2, .ref q4], μ)) rfl ?_
      obtain ⟨h12, hr⟩ := mIf hr
      obtain ⟨q13, h14, hr⟩ := mBi hr
      refine gCall (z := 90) (n := 1) (f := 0) (kind := 1) (a := q4) (As := [.int p2]) (y := 38) (is := List.drop 21 mC38) (L := [.ref p0, .int p1, .int p2, .int p3, .int s, .ref q4, w6]) (rest := []) (μ := μ) rfl (by decide) (by decide) ⟨rfl, rfl⟩ rfl h12 (Nat.le_of_ble_eq_true rfl) (Nat.le_of_ble_eq_true rfl) (t90 h14) ?_
      refine mGo.steps 1 (c' := (38, List.drop 23 mC38, [.ref p0, .int p1, .int p2, .int p3, .int s, .ref q4, w6], [.int q13], μ)) rfl ?_
      exact t38L2_23 μ p0 p1 p2 p3 s q4 q13 w6 hw6 hr hC
theorem t38L2l (μ : mM) (p0 : Nat) (p1 : Int32) (p2 : Int32) (p3 : Int32) {r : Option Value × mM} (n : Nat) (s : Int32) (o : (Unit) ⊕ Int32) (hr : mLoop (s38L2 μ p0 p1 p2 p3) n s = some o) (hC : Sum.elim (fun x : Unit => ∀ (w0 : Value) (hw0 : mNotL w0 = true) (w1 : Value) (hw1 : mNotL w1 = true) (w2 : Value) (hw2 : mNotL w2 = true) (w3 : Value) (hw3 : mNotL w3 = true) (w4 : Value) (hw4 : mNotL w4 = true) (w5 : Value) (hw5 : mNotL w5 = true) (w6 : Value) (hw6 : mNotL w6 = true), mGo mG (38, List.drop 38 mC38, [w0, w1, w2, w3, w4, w5, w6], [], μ) r) (fun y : Int32 => r = (some (.int y), μ)) o) : ∀ (w5 : Value) (hw5 : mNotL w5 = true) (w6 : Value) (hw6 : mNotL w6 = true), mGo mG (38, List.drop 2 mC38, [.ref p0, .int p1, .int p2, .int p3, .int s, w5, w6], [], μ) r :=
  mLoop_go (Hd := (fun s' : Int32 => ∀ (w5 : Value) (hw5 : mNotL w5 = true) (w6 : Value) (hw6 : mNotL w6 = true), mGo mG (38, List.drop 2 mC38, [.ref p0, .int p1, .int p2, .int p3, .int s', w5, w6], [], μ) r)) (fun s o hb hC => t38L2 μ p0 p1 p2 p3 s o hb hC) n s o hr hC
def s38 (μ : mM) (a0 : Nat) (a1 : Int32) (a2 : Int32) (a3 : Int32) : Option Int32 :=
  (mLoop (s38L2 μ a0 a1 a2 a3) 1000 0).bind fun o17 => Sum.elim (fun x18 => some 0) (fun y19 => some y19) o17
set_option maxRecDepth 20000 in
theorem t38 {μ : mM} {a0 : Nat} {a1 : Int32} {a2 : Int32} {a3 : Int32} {o : Int32} (hr : s38 μ a0 a1 a2 a3 = some o) : mEv mG 38 [.ref a0, .int a1, .int a2, .int a3] μ (some (.int o)) (μ) := by
  obtain ⟨r, hC⟩ : ∃ r : Option Value × mM, r = (some (.int o), μ) := ⟨_, rfl⟩
  show mGo mG (38, List.drop 0 mC38, [.ref a0, .int a1, .int a2, .int a3, .retAddr 0, .retAddr 0, .retAddr 0], [], μ) (some (.int o), μ)
  rw [← hC]
  unfold s38 at hr
  refine mGo.steps 2 (c' := (38, List.drop 2 mC38, [.ref a0, .int a1, .int a2, .int a3, .int 0, .retAddr 0, .retAddr 0], [], μ)) rfl ?_
  obtain ⟨o17, h20, hr⟩ := mBi hr
  refine t38L2l μ a0 a1 a2 a3 1000 0 o17 h20 ?_ (.retAddr 0) rfl (.retAddr 0) rfl
  cases o17 with
  | inl x18 =>
    show ∀ (w0 : Value) (hw0 : mNotL w0 = true) (w1 : Value) (hw1 : mNotL w1 = true) (w2 : Value) (hw2 : mNotL w2 = true) (w3 : Value) (hw3 : mNotL w3 = true) (w4 : Value) (hw4 : mNotL w4 = true) (w5 : Value) (hw5 : mNotL w5 = true) (w6 : Value) (hw6 : mNotL w6 = true), mGo mG (38, List.drop 38 mC38, [w0, w1, w2, w3, w4, w5, w6], [], μ) r
    intro w0 hw0 w1 hw1 w2 hw2 w3 hw3 w4 hw4 w5 hw5 w6 hw6
    replace hr : (_) = some _ := hr
    refine mGo.steps 1 (c' := (38, List.drop 39 mC38, [w0, w1, w2, w3, w4, w5, w6], [.int 0], μ)) rfl ?_
    obtain rfl := Option.some.inj hr
    rw [show r = _ from hC]
    exact gZret rfl (by decide)
  | inr y19 =>
    obtain rfl := Option.some.inj hr
    exact hC

/-! 37: TunnelFabric$Fabric.leastHopNumber(II)I -/
def s37L2 (μ : mM) (p0 : Nat) (p1 : Int32) (p2 : Int32) (s : Int32) : Option ((Int32) ⊕ ((Unit) ⊕ Int32)) :=
  if 15 < s then (some (.inr (.inl ()))) else (if (mS μ p0).1 = 1 then (s38 μ p0 s p1 p2).bind fun q2 => if ¬ q2 = 0 then (some (.inl (s + 1))) else (some (.inr (.inr s))) else none)
set_option maxRecDepth 20000 in
theorem t37L2 (μ : mM) (p0 : Nat) (p1 : Int32) (p2 : Int32) {r : Option Value × mM} (s : Int32) (o : ((Int32) ⊕ ((Unit) ⊕ Int32))) (hr : s37L2 μ p0 p1 p2 s = some o) (hC : Sum.elim (fun s' : Int32 => mGo mG (37, List.drop 2 mC37, [.ref p0, .int p1, .int p2, .int s'], [], μ) r) (Sum.elim (fun x : Unit => ∀ (w0 : Value) (hw0 : mNotL w0 = true) (w1 : Value) (hw1 : mNotL w1 = true) (w2 : Value) (hw2 : mNotL w2 = true) (w3 : Value) (hw3 : mNotL w3 = true), mGo mG (37, List.drop 15 mC37, [w0, w1, w2, w3], [], μ) r) (fun y : Int32 => r = (some (.int y), μ))) o) : mGo mG (37, List.drop 2 mC37, [.ref p0, .int p1, .int p2, .int s], [], μ) r := by
  unfold s37L2 at hr
  refine mGo.steps 2 (c' := (37, List.drop 4 mC37, [.ref p0, .int p1, .int p2, .int s], [.int 15, .int s], μ)) rfl ?_
  rcases mIte hr with ⟨h5, hr⟩ | ⟨h5, hr⟩
  · refine gBrT (p := 15 < s) (y := 37) (is := List.drop 5 mC37) (L := [.ref p0, .int p1, .int p2, .int s]) (st := []) (μ := μ) (t := 27) rfl h5 ?_
    obtain rfl := Option.some.inj hr
    exact hC (.ref p0) rfl (.int p1) rfl (.int p2) rfl (.int s) rfl
  · refine gBrF (p := 15 < s) (y := 37) (is := List.drop 5 mC37) (L := [.ref p0, .int p1, .int p2, .int s]) (st := []) (μ := μ) (t := 27) rfl h5 ?_
    refine mGo.steps 4 (c' := (37, List.drop 9 mC37, [.ref p0, .int p1, .int p2, .int s], [.int p2, .int p1, .int s, .ref p0], μ)) rfl ?_
    obtain ⟨h1, hr⟩ := mIf hr
    obtain ⟨q2, h3, hr⟩ := mBi hr
    refine gCall (z := 38) (n := 3) (f := 0) (kind := 1) (a := p0) (As := [.int s, .int p1, .int p2]) (y := 37) (is := List.drop 10 mC37) (L := [.ref p0, .int p1, .int p2, .int s]) (rest := []) (μ := μ) rfl (by decide) (by decide) ⟨rfl, rfl⟩ rfl h1 (Nat.le_of_ble_eq_true rfl) (Nat.le_of_ble_eq_true rfl) (t38 h3) ?_
    rcases mIte hr with ⟨h4, hr⟩ | ⟨h4, hr⟩
    · refine gBrT (p := ¬ q2 = 0) (y := 37) (is := List.drop 11 mC37) (L := [.ref p0, .int p1, .int p2, .int s]) (st := []) (μ := μ) (t := 21) rfl h4 ?_
      refine mGo.steps 2 (c' := (37, List.drop 2 mC37, [.ref p0, .int p1, .int p2, .int (s + 1)], [], μ)) rfl ?_
      obtain rfl := Option.some.inj hr
      exact hC
    · refine gBrF (p := ¬ q2 = 0) (y := 37) (is := List.drop 11 mC37) (L := [.ref p0, .int p1, .int p2, .int s]) (st := []) (μ := μ) (t := 21) rfl h4 ?_
      refine mGo.steps 1 (c' := (37, List.drop 12 mC37, [.ref p0, .int p1, .int p2, .int s], [.int s], μ)) rfl ?_
      obtain rfl := Option.some.inj hr
      rw [show r = _ from hC]
      exact gIret rfl
theorem t37L2l (μ : mM) (p0 : Nat) (p1 : Int32) (p2 : Int32) {r : Option Value × mM} (n : Nat) (s : Int32) (o : (Unit) ⊕ Int32) (hr : mLoop (s37L2 μ p0 p1 p2) n s = some o) (hC : Sum.elim (fun x : Unit => ∀ (w0 : Value) (hw0 : mNotL w0 = true) (w1 : Value) (hw1 : mNotL w1 = true) (w2 : Value) (hw2 : mNotL w2 = true) (w3 : Value) (hw3 : mNotL w3 = true), mGo mG (37, List.drop 15 mC37, [w0, w1, w2, w3], [], μ) r) (fun y : Int32 => r = (some (.int y), μ)) o) : mGo mG (37, List.drop 2 mC37, [.ref p0, .int p1, .int p2, .int s], [], μ) r :=
  mLoop_go (Hd := (fun s' : Int32 => mGo mG (37, List.drop 2 mC37, [.ref p0, .int p1, .int p2, .int s'], [], μ) r)) (fun s o hb hC => t37L2 μ p0 p1 p2 s o hb hC) n s o hr hC
def s37 (μ : mM) (a0 : Nat) (a1 : Int32) (a2 : Int32) : Option Int32 :=
  (mLoop (s37L2 μ a0 a1 a2) 1000 8).bind fun o6 => Sum.elim (fun x7 => some (-1)) (fun y8 => some y8) o6
set_option maxRecDepth 20000 in
theorem t37 {μ : mM} {a0 : Nat} {a1 : Int32} {a2 : Int32} {o : Int32} (hr : s37 μ a0 a1 a2 = some o) : mEv mG 37 [.ref a0, .int a1, .int a2] μ (some (.int o)) (μ) := by
  obtain ⟨r, hC⟩ : ∃ r : Option Value × mM, r = (some (.int o), μ) := ⟨_, rfl⟩
  show mGo mG (37, List.drop 0 mC37, [.ref a0, .int a1, .int a2, .retAddr 0], [], μ) (some (.int o), μ)
  rw [← hC]
  unfold s37 at hr
  refine mGo.steps 2 (c' := (37, List.drop 2 mC37, [.ref a0, .int a1, .int a2, .int 8], [], μ)) rfl ?_
  obtain ⟨o6, h9, hr⟩ := mBi hr
  refine t37L2l μ a0 a1 a2 1000 8 o6 h9 ?_ 
  cases o6 with
  | inl x7 =>
    show ∀ (w0 : Value) (hw0 : mNotL w0 = true) (w1 : Value) (hw1 : mNotL w1 = true) (w2 : Value) (hw2 : mNotL w2 = true) (w3 : Value) (hw3 : mNotL w3 = true), mGo mG (37, List.drop 15 mC37, [w0, w1, w2, w3], [], μ) r
    intro w0 hw0 w1 hw1 w2 hw2 w3 hw3
    replace hr : (_) = some _ := hr
    refine mGo.steps 1 (c' := (37, List.drop 16 mC37, [w0, w1, w2, w3], [.int (-1)], μ)) rfl ?_
    obtain rfl := Option.some.inj hr
    rw [show r = _ from hC]
    exact gIret rfl
  | inr y8 =>
    obtain rfl := Option.some.inj hr
    exact hC

/-! 40: TunnelFabric$Fabric.baysTaken(I)I -/
def s40L4_24 (μ : mM) (p0 : Nat) (p1 : Int32) (v3 : Int32) (t0 : Int32) (t1 : Int32) : Option ((Int32 × Int32) ⊕ ((Int32) ⊕ Int32)) :=
  some (.inl (t1 + t0, v3 + 1))
set_option maxRecDepth 20000 in
theorem t40L4_24 (μ : mM) (p0 : Nat) (p1 : Int32) (v3 : Int32) (t0 : Int32) (t1 : Int32) (w2 : Value) (hw2 : mNotL w2 = true) {o : ((Int32 × Int32) ⊕ ((Int32) ⊕ Int32))} {r : Option Value × mM} (hr : s40L4_24 μ p0 p1 v3 t0 t1 = some o) (hC : Sum.elim (fun s' : Int32 × Int32 => mGo mG (40, List.drop 4 mC40, [.ref p0, .int p1, .int s'.1, .int s'.2], [], μ) r) (Sum.elim (fun x : Int32 => ∀ (w0 : Value) (hw0 : mNotL w0 = true) (w1 : Value) (hw1 : mNotL w1 = true) (w3 : Value) (hw3 : mNotL w3 = true), mGo mG (40, List.drop 28 mC40, [w0, w1, .int x, w3], [], μ) r) (fun y : Int32 => r = (some (.int y), μ))) o) : mGo mG (40, List.drop 24 mC40, [.ref p0, .int p1, w2, .int v3], [.int t0, .int t1], μ) r := by
  unfold s40L4_24 at hr
  refine mGo.steps 4 (c' := (40, List.drop 4 mC40, [.ref p0, .int p1, .int (t1 + t0), .int (v3 + 1)], [], μ)) rfl ?_
  obtain rfl := Option.some.inj hr
  exact hC
def s40L4_23 (μ : mM) (p0 : Nat) (p1 : Int32) (v3 : Int32) (t0 : Int32) : Option ((Int32 × Int32) ⊕ ((Int32) ⊕ Int32)) :=
  s40L4_24 μ p0 p1 v3 0 t0
set_option maxRecDepth 20000 in
theorem t40L4_23 (μ : mM) (p0 : Nat) (p1 : Int32) (v3 : Int32) (t0 : Int32) (w2 : Value) (hw2 : mNotL w2 = true) {o : ((Int32 × Int32) ⊕ ((Int32) ⊕ Int32))} {r : Option Value × mM} (hr : s40L4_23 μ p0 p1 v3 t0 = some o) (hC : Sum.elim (fun s' : Int32 × Int32 => mGo mG (40, List.drop 4 mC40, [.ref p0, .int p1, .int s'.1, .int s'.2], [], μ) r) (Sum.elim (fun x : Int32 => ∀ (w0 : Value) (hw0 : mNotL w0 = true) (w1 : Value) (hw1 : mNotL w1 = true) (w3 : Value) (hw3 : mNotL w3 = true), mGo mG (40, List.drop 28 mC40, [w0, w1, .int x, w3], [], μ) r) (fun y : Int32 => r = (some (.int y), μ))) o) : mGo mG (40, List.drop 23 mC40, [.ref p0, .int p1, w2, .int v3], [.int t0], μ) r := by
  unfold s40L4_23 at hr
  refine mGo.steps 1 (c' := (40, List.drop 24 mC40, [.ref p0, .int p1, w2, .int v3], [.int 0, .int t0], μ)) rfl ?_
  exact t40L4_24 μ p0 p1 v3 0 t0 w2 hw2 hr hC
def s40L4 (μ : mM) (p0 : Nat) (p1 : Int32) (s : Int32 × Int32) : Option ((Int32 × Int32) ⊕ ((Int32) ⊕ Int32)) :=
  if 10 ≤ s.2 then (some (.inr (.inl s.1))) else (if (mS μ p0).1 = 1 then if (mS μ (mP μ p0 1)).1 = 20 + 6 ∧ mInb s.2 (mS μ (mP μ p0 1)).2 then if (mS μ (mP μ (mP μ p0 1) (Int32.toNatClampNeg s.2))).1 = 6 then if (mI μ (mP μ (mP μ p0 1) (Int32.toNatClampNeg s.2)) 0) = 0 then (s40L4_23 μ p0 p1 s.2 s.1) else (if ¬ (mI μ (mP μ (mP μ p0 1) (Int32.toNatClampNeg s.2)) 1) = p1 then (s40L4_23 μ p0 p1 s.2 s.1) else (s40L4_24 μ p0 p1 s.2 1 s.1)) else none else none else none)
set_option maxRecDepth 20000 in
theorem t40L4 (μ : mM) (p0 : Nat) (p1 : Int32) {r : Option Value × mM} (s : Int32 × Int32) (o : ((Int32 × Int32) ⊕ ((Int32) ⊕ Int32))) (hr : s40L4 μ p0 p1 s = some o) (hC : Sum.elim (fun s' : Int32 × Int32 => mGo mG (40, List.drop 4 mC40, [.ref p0, .int p1, .int s'.1, .int s'.2], [], μ) r) (Sum.elim (fun x : Int32 => ∀ (w0 : Value) (hw0 : mNotL w0 = true) (w1 : Value) (hw1 : mNotL w1 = true) (w3 : Value) (hw3 : mNotL w3 = true), mGo mG (40, List.drop 28 mC40, [w0, w1, .int x, w3], [], μ) r) (fun y : Int32 => r = (some (.int y), μ))) o) : mGo mG (40, List.drop 4 mC40, [.ref p0, .int p1, .int s.1, .int s.2], [], μ) r := by
  unfold s40L4 at hr
  refine mGo.steps 2 (c' := (40, List.drop 6 mC40, [.ref p0, .int p1, .int s.1, .int s.2], [.int 10, .int s.2], μ)) rfl ?_
  rcases mIte hr with ⟨h6, hr⟩ | ⟨h6, hr⟩
  · refine gBrT (p := 10 ≤ s.2) (y := 40) (is := List.drop 7 mC40) (L := [.ref p0, .int p1, .int s.1, .int s.2]) (st := []) (μ := μ) (t := 49) rfl h6 ?_
    obtain rfl := Option.some.inj hr
    exact hC (.ref p0) rfl (.int p1) rfl (.int s.2) rfl
  · refine gBrF (p := 10 ≤ s.2) (y := 40) (is := List.drop 7 mC40) (L := [.ref p0, .int p1, .int s.1, .int s.2]) (st := []) (μ := μ) (t := 49) rfl h6 ?_
    refine mGo.steps 2 (c' := (40, List.drop 9 mC40, [.ref p0, .int p1, .int s.1, .int s.2], [.ref p0, .int s.1], μ)) rfl ?_
    obtain ⟨h1, hr⟩ := mIf hr
    refine gGet (is := List.drop 10 mC40) (v := .ref (mP μ p0 1)) h1 rfl ?_
    refine mGo.steps 1 (c' := (40, List.drop 11 mC40, [.ref p0, .int p1, .int s.1, .int s.2], [.int s.2, .ref (mP μ p0 1), .int s.1], μ)) rfl ?_
    obtain ⟨h2, hr⟩ := mIf hr
    refine gAald (is := List.drop 12 mC40) h2 ?_
    obtain ⟨h3, hr⟩ := mIf hr
    refine gGet (is := List.drop 13 mC40) (v := .int (mI μ (mP μ (mP μ p0 1) (Int32.toNatClampNeg s.2)) 0)) h3 rfl ?_
    rcases mIte hr with ⟨h5, hr⟩ | ⟨h5, hr⟩
    · refine gBrT (p := (mI μ (mP μ (mP μ p0 1) (Int32.toNatClampNeg s.2)) 0) = 0) (y := 40) (is := List.drop 14 mC40) (L := [.ref p0, .int p1, .int s.1, .int s.2]) (st := [.int s.1]) (μ := μ) (t := 40) rfl h5 ?_
      exact t40L4_23 μ p0 p1 s.2 s.1 (.int s.1) rfl hr hC
    · refine gBrF (p := (mI μ (mP μ (mP μ p0 1) (Int32.toNatClampNeg s.2)) 0) = 0) (y := 40) (is := List.drop 14 mC40) (L := [.ref p0, .int p1, .int s.1, .int s.2]) (st := [.int s.1]) (μ := μ) (t := 40) rfl h5 ?_
      refine mGo.steps 1 (c' := (40, List.drop 15 mC40, [.ref p0, .int p1, .int s.1, .int s.2], [.ref p0, .int s.1], μ)) rfl ?_
      refine gGet (is := List.drop 16 mC40) (v := .ref (mP μ p0 1)) h1 rfl ?_
      refine mGo.steps 1 (c' := (40, List.drop 17 mC40, [.ref p0, .int p1, .int s.1, .int s.2], [.int s.2, .ref (mP μ p0 1), .int s.1], μ)) rfl ?_
      refine gAald (is := List.drop 18 mC40) h2 ?_
      refine gGet (is := List.drop 19 mC40) (v := .int (mI μ (mP μ (mP μ p0 1) (Int32.toNatClampNeg s.2)) 1)) h3 rfl ?_
      refine mGo.steps 1 (c' := (40, List.drop 20 mC40, [.ref p0, .int p1, .int s.1, .int s.2], [.int p1, .int (mI μ (mP μ (mP μ p0 1) (Int32.toNatClampNeg s.2)) 1), .int s.1], μ)) rfl ?_
      rcases mIte hr with ⟨h4, hr⟩ | ⟨h4, hr⟩
      · refine gBrT (p := ¬ (mI μ (mP μ (mP μ p0 1) (Int32.toNatClampNeg s.2)) 1) = p1) (y := 40) (is := List.drop 21 mC40) (L := [.ref p0, .int p1, .int s.1, .int s.2]) (st := [.int s.1]) (μ := μ) (t := 40) rfl h4 ?_
        exact t40L4_23 μ p0 p1 s.2 s.1 (.int s.1) rfl hr hC
      · refine gBrF (p := ¬ (mI μ (mP μ (mP μ p0 1) (Int32.toNatClampNeg s.2)) 1) = p1) (y := 40) (is := List.drop 21 mC40) (L := [.ref p0, .int p1, .int s.1, .int s.2]) (st := [.int s.1]) (μ := μ) (t := 40) rfl h4 ?_
        refine mGo.steps 2 (c' := (40, List.drop 24 mC40, [.ref p0, .int p1, .int s.1, .int s.2], [.int 1, .int s.1], μ)) rfl ?_
        exact t40L4_24 μ p0 p1 s.2 1 s.1 (.int s.1) rfl hr hC
theorem t40L4l (μ : mM) (p0 : Nat) (p1 : Int32) {r : Option Value × mM} (n : Nat) (s : Int32 × Int32) (o : (Int32) ⊕ Int32) (hr : mLoop (s40L4 μ p0 p1) n s = some o) (hC : Sum.elim (fun x : Int32 => ∀ (w0 : Value) (hw0 : mNotL w0 = true) (w1 : Value) (hw1 : mNotL w1 = true) (w3 : Value) (hw3 : mNotL w3 = true), mGo mG (40, List.drop 28 mC40, [w0, w1, .int x, w3], [], μ) r) (fun y : Int32 => r = (some (.int y), μ)) o) : mGo mG (40, List.drop 4 mC40, [.ref p0, .int p1, .int s.1, .int s.2], [], μ) r :=
  mLoop_go (Hd := (fun s' : Int32 × Int32 => mGo mG (40, List.drop 4 mC40, [.ref p0, .int p1, .int s'.1, .int s'.2], [], μ) r)) (fun s o hb hC => t40L4 μ p0 p1 s o hb hC) n s o hr hC
def s40 (μ : mM) (a0 : Nat) (a1 : Int32) : Option Int32 :=
  (mLoop (s40L4 μ a0 a1) 1000 (0, 0)).bind fun o7 => Sum.elim (fun x8 => some x8) (fun y9 => some y9) o7
set_option maxRecDepth 20000 in
theorem t40 {μ : mM} {a0 : Nat} {a1 : Int32} {o : Int32} (hr : s40 μ a0 a1 = some o) : mEv mG 40 [.ref a0, .int a1] μ (some (.int o)) (μ) := by
  obtain ⟨r, hC⟩ : ∃ r : Option Value × mM, r = (some (.int o), μ) := ⟨_, rfl⟩
  show mGo mG (40, List.drop 0 mC40, [.ref a0, .int a1, .retAddr 0, .retAddr 0], [], μ) (some (.int o), μ)
  rw [← hC]
  unfold s40 at hr
  refine mGo.steps 4 (c' := (40, List.drop 4 mC40, [.ref a0, .int a1, .int 0, .int 0], [], μ)) rfl ?_
  obtain ⟨o7, h10, hr⟩ := mBi hr
  refine t40L4l μ a0 a1 1000 (0, 0) o7 h10 ?_ 
  cases o7 with
  | inl x8 =>
    show ∀ (w0 : Value) (hw0 : mNotL w0 = true) (w1 : Value) (hw1 : mNotL w1 = true) (w3 : Value) (hw3 : mNotL w3 = true), mGo mG (40, List.drop 28 mC40, [w0, w1, .int x8, w3], [], μ) r
    intro w0 hw0 w1 hw1 w3 hw3
    replace hr : (_) = some _ := hr
    refine mGo.steps 1 (c' := (40, List.drop 29 mC40, [w0, w1, .int x8, w3], [.int x8], μ)) rfl ?_
    obtain rfl := Option.some.inj hr
    rw [show r = _ from hC]
    exact gIret rfl
  | inr y9 =>
    obtain rfl := Option.some.inj hr
    exact hC

/-! 41: TunnelFabric$Fabric.hopNumbersSuffice(II)Z -/
def s41L4_23 (μ : mM) (p0 : Nat) (p1 : Int32) : Option ((Int32 × Int32) ⊕ ((Unit) ⊕ Int32)) :=
  some (.inr (.inr 0))
set_option maxRecDepth 20000 in
theorem t41L4_23 (μ : mM) (p0 : Nat) (p1 : Int32) (w0 : Value) (hw0 : mNotL w0 = true) (w1 : Value) (hw1 : mNotL w1 = true) (w2 : Value) (hw2 : mNotL w2 = true) (w3 : Value) (hw3 : mNotL w3 = true) (w4 : Value) (hw4 : mNotL w4 = true) {o : ((Int32 × Int32) ⊕ ((Unit) ⊕ Int32))} {r : Option Value × mM} (hr : s41L4_23 μ p0 p1 = some o) (hC : Sum.elim (fun s' : Int32 × Int32 => ∀ (w2 : Value) (hw2 : mNotL w2 = true), mGo mG (41, List.drop 4 mC41, [.ref p0, .int p1, w2, .int s'.1, .int s'.2], [], μ) r) (Sum.elim (fun x : Unit => ∀ (w0 : Value) (hw0 : mNotL w0 = true) (w1 : Value) (hw1 : mNotL w1 = true) (w2 : Value) (hw2 : mNotL w2 = true) (w3 : Value) (hw3 : mNotL w3 = true) (w4 : Value) (hw4 : mNotL w4 = true), mGo mG (41, List.drop 32 mC41, [w0, w1, w2, w3, w4], [], μ) r) (fun y : Int32 => r = (some (.int y), μ))) o) : mGo mG (41, List.drop 23 mC41, [w0, w1, w2, w3, w4], [], μ) r := by
  unfold s41L4_23 at hr
  refine mGo.steps 1 (c' := (41, List.drop 24 mC41, [w0, w1, w2, w3, w4], [.int 0], μ)) rfl ?_
  obtain rfl := Option.some.inj hr
  rw [show r = _ from hC]
  exact gZret rfl (by decide)
def s41L4_25 (μ : mM) (p0 : Nat) (p1 : Int32) (v3 : Int32) (v4 : Int32) : Option ((Int32 × Int32) ⊕ ((Unit) ⊕ Int32)) :=
  if (mS μ p0).1 = 1 then (s18 μ p0 v3).bind fun q5 => if (mS μ q5).1 = 4 then some (.inl (mI μ q5 3, v4 + 1)) else none else none
set_option maxRecDepth 20000 in
theorem t41L4_25 (μ : mM) (p0 : Nat) (p1 : Int32) (v3 : Int32) (v4 : Int32) (w2 : Value) (hw2 : mNotL w2 = true) {o : ((Int32 × Int32) ⊕ ((Unit) ⊕ Int32))} {r : Option Value × mM} (hr : s41L4_25 μ p0 p1 v3 v4 = some o) (hC : Sum.elim (fun s' : Int32 × Int32 => ∀ (w2 : Value) (hw2 : mNotL w2 = true), mGo mG (41, List.drop 4 mC41, [.ref p0, .int p1, w2, .int s'.1, .int s'.2], [], μ) r) (Sum.elim (fun x : Unit => ∀ (w0 : Value) (hw0 : mNotL w0 = true) (w1 : Value) (hw1 : mNotL w1 = true) (w2 : Value) (hw2 : mNotL w2 = true) (w3 : Value) (hw3 : mNotL w3 = true) (w4 : Value) (hw4 : mNotL w4 = true), mGo mG (41, List.drop 32 mC41, [w0, w1, w2, w3, w4], [], μ) r) (fun y : Int32 => r = (some (.int y), μ))) o) : mGo mG (41, List.drop 25 mC41, [.ref p0, .int p1, w2, .int v3, .int v4], [], μ) r := by
  unfold s41L4_25 at hr
  refine mGo.steps 2 (c' := (41, List.drop 27 mC41, [.ref p0, .int p1, w2, .int v3, .int v4], [.int v3, .ref p0], μ)) rfl ?_
  obtain ⟨h4, hr⟩ := mIf hr
  obtain ⟨q5, h6, hr⟩ := mBi hr
  refine gCall (z := 18) (n := 1) (f := 0) (kind := 1) (a := p0) (As := [.int v3]) (y := 41) (is := List.drop 28 mC41) (L := [.ref p0, .int p1, w2, .int v3, .int v4]) (rest := []) (μ := μ) rfl (by decide) (by decide) ⟨rfl, rfl⟩ rfl h4 (Nat.le_of_ble_eq_true rfl) (Nat.le_of_ble_eq_true rfl) (t18 h6) ?_
  obtain ⟨h7, hr⟩ := mIf hr
  refine gGet (is := List.drop 29 mC41) (v := .int (mI μ q5 3)) h7 rfl ?_
  refine gSt1 (L := [.ref p0, .int p1, w2, .int v3, .int v4]) (q := 3) (w := .int (mI μ q5 3)) (is := List.drop 30 mC41) (st := []) (μ := μ) rfl (Nat.le_of_ble_eq_true rfl) hw2 ?_
  refine mGo.steps 2 (c' := (41, List.drop 4 mC41, [.ref p0, .int p1, w2, .int (mI μ q5 3), .int (v4 + 1)], [], μ)) rfl ?_
  obtain rfl := Option.some.inj hr
  exact hC w2 hw2
def s41L4 (μ : mM) (p0 : Nat) (p1 : Int32) (s : Int32 × Int32) : Option ((Int32 × Int32) ⊕ ((Unit) ⊕ Int32)) :=
  if 4 ≤ s.2 then (some (.inr (.inl ()))) else (if s.1 = 0 then (some (.inr (.inl ()))) else (if (mS μ p0).1 = 1 then (s37 μ p0 s.1 0).bind fun q2 => if q2 = (-1) then (s41L4_23 μ p0 p1) else (if p1 = 0 then (s41L4_25 μ p0 p1 s.1 s.2) else ((s37 μ p0 s.1 1).bind fun q8 => if ¬ q8 = (-1) then (s41L4_25 μ p0 p1 s.1 s.2) else (s41L4_23 μ p0 p1))) else none))
set_option maxRecDepth 20000 in
theorem t41L4 (μ : mM) (p0 : Nat) (p1 : Int32) {r : Option Value × mM} (s : Int32 × Int32) (o : ((Int32 × Int32) ⊕ ((Unit) ⊕ Int32))) (hr : s41L4 μ p0 p1 s = some o) (hC : Sum.elim (fun s' : Int32 × Int32 => ∀ (w2 : Value) (hw2 : mNotL w2 = true), mGo mG (41, List.drop 4 mC41, [.ref p0, .int p1, w2, .int s'.1, .int s'.2], [], μ) r) (Sum.elim (fun x : Unit => ∀ (w0 : Value) (hw0 : mNotL w0 = true) (w1 : Value) (hw1 : mNotL w1 = true) (w2 : Value) (hw2 : mNotL w2 = true) (w3 : Value) (hw3 : mNotL w3 = true) (w4 : Value) (hw4 : mNotL w4 = true), mGo mG (41, List.drop 32 mC41, [w0, w1, w2, w3, w4], [], μ) r) (fun y : Int32 => r = (some (.int y), μ))) o) : ∀ (w2 : Value) (hw2 : mNotL w2 = true), mGo mG (41, List.drop 4 mC41, [.ref p0, .int p1, w2, .int s.1, .int s.2], [], μ) r := by
  intro w2 hw2
  unfold s41L4 at hr
  refine mGo.steps 2 (c' := (41, List.drop 6 mC41, [.ref p0, .int p1, w2, .int s.1, .int s.2], [.int 4, .int s.2], μ)) rfl ?_
  rcases mIte hr with ⟨h14, hr⟩ | ⟨h14, hr⟩
  · refine gBrT (p := 4 ≤ s.2) (y := 41) (is := List.drop 7 mC41) (L := [.ref p0, .int p1, w2, .int s.1, .int s.2]) (st := []) (μ := μ) (t := 56) rfl h14 ?_
    obtain rfl := Option.some.inj hr
    exact hC (.ref p0) rfl (.int p1) rfl w2 hw2 (.int s.1) rfl (.int s.2) rfl
  · refine gBrF (p := 4 ≤ s.2) (y := 41) (is := List.drop 7 mC41) (L := [.ref p0, .int p1, w2, .int s.1, .int s.2]) (st := []) (μ := μ) (t := 56) rfl h14 ?_
    refine mGo.steps 1 (c' := (41, List.drop 8 mC41, [.ref p0, .int p1, w2, .int s.1, .int s.2], [.int s.1], μ)) rfl ?_
    rcases mIte hr with ⟨h13, hr⟩ | ⟨h13, hr⟩
    · refine gBrT (p := s.1 = 0) (y := 41) (is := List.drop 9 mC41) (L := [.ref p0, .int p1, w2, .int s.1, .int s.2]) (st := []) (μ := μ) (t := 56) rfl h13 ?_
      obtain rfl := Option.some.inj hr
      exact hC (.ref p0) rfl (.int p1) rfl w2 hw2 (.int s.1) rfl (.int s.2) rfl
    · refine gBrF (p := s.1 = 0) (y := 41) (is := List.drop 9 mC41) (L := [.ref p0, .int p1, w2, .int s.1, .int s.2]) (st := []) (μ := μ) (t := 56) rfl h13 ?_
      refine mGo.steps 3 (c' := (41, List.drop 12 mC41, [.ref p0, .int p1, w2, .int s.1, .int s.2], [.int 0, .int s.1, .ref p0], μ)) rfl ?_
      obtain ⟨h1, hr⟩ := mIf hr
      obtain ⟨q2, h3, hr⟩ := mBi hr
      refine gCall (z := 37) (n := 2) (f := 0) (kind := 1) (a := p0) (As := [.int s.1, .int 0]) (y := 41) (is := List.drop 13 mC41) (L := [.ref p0, .int p1, w2, .int s.1, .int s.2]) (rest := []) (μ := μ) rfl (by decide) (by decide) ⟨rfl, rfl⟩ rfl h1 (Nat.le_of_ble_eq_true rfl) (Nat.le_of_ble_eq_true rfl) (t37 h3) ?_
      refine mGo.steps 1 (c' := (41, List.drop 14 mC41, [.ref p0, .int p1, w2, .int s.1, .int s.2], [.int (-1), .int q2], μ)) rfl ?_
      rcases mIte hr with ⟨h12, hr⟩ | ⟨h12, hr⟩
      · refine gBrT (p := q2 = (-1)) (y := 41) (is := List.drop 15 mC41) (L := [.ref p0, .int p1, w2, .int s.1, .int s.2]) (st := []) (μ := μ) (t := 39) rfl h12 ?_
        exact t41L4_23 μ p0 p1 (.ref p0) rfl (.int p1) rfl w2 hw2 (.int s.1) rfl (.int s.2) rfl hr hC
      · refine gBrF (p := q2 = (-1)) (y := 41) (is := List.drop 15 mC41) (L := [.ref p0, .int p1, w2, .int s.1, .int s.2]) (st := []) (μ := μ) (t := 39) rfl h12 ?_
        refine mGo.steps 1 (c' := (41, List.drop 16 mC41, [.ref p0, .int p1, w2, .int s.1, .int s.2], [.int p1], μ)) rfl ?_
        rcases mIte hr with ⟨h11, hr⟩ | ⟨h11, hr⟩
        · refine gBrT (p := p1 = 0) (y := 41) (is := List.drop 17 mC41) (L := [.ref p0, .int p1, w2, .int s.1, .int s.2]) (st := []) (μ := μ) (t := 41) rfl h11 ?_
          exact t41L4_25 μ p0 p1 s.1 s.2 w2 hw2 hr hC
        · refine gBrF (p := p1 = 0) (y := 41) (is := List.drop 17 mC41) (L := [.ref p0, .int p1, w2, .int s.1, .int s.2]) (st := []) (μ := μ) (t := 41) rfl h11 ?_
          refine mGo.steps 3 (c' := (41, List.drop 20 mC41, [.ref p0, .int p1, w2, .int s.1, .int s.2], [.int 1, .int s.1, .ref p0], μ)) rfl ?_
          obtain ⟨q8, h9, hr⟩ := mBi hr
          refine gCall (z := 37) (n := 2) (f := 0) (kind := 1) (a := p0) (As := [.int s.1, .int 1]) (y := 41) (is := List.drop 21 mC41) (L := [.ref p0, .int p1, w2, .int s.1, .int s.2]) (rest := []) (μ := μ) rfl (by decide) (by decide) ⟨rfl, rfl⟩ rfl h1 (Nat.le_of_ble_eq_true rfl) (Nat.le_of_ble_eq_true rfl) (t37 h9) ?_
          refine mGo.steps 1 (c' := (41, List.drop 22 mC41, [.ref p0, .int p1, w2, .int s.1, .int s.2], [.int (-1), .int q8], μ)) rfl ?_
          rcases mIte hr with ⟨h10, hr⟩ | ⟨h10, hr⟩
          · refine gBrT (p := ¬ q8 = (-1)) (y := 41) (is := List.drop 23 mC41) (L := [.ref p0, .int p1, w2, .int s.1, .int s.2]) (st := []) (μ := μ) (t := 41) rfl h10 ?_
            exact t41L4_25 μ p0 p1 s.1 s.2 w2 hw2 hr hC
          · refine gBrF (p := ¬ q8 = (-1)) (y := 41) (is := List.drop 23 mC41) (L := [.ref p0, .int p1, w2, .int s.1, .int s.2]) (st := []) (μ := μ) (t := 41) rfl h10 ?_
            exact t41L4_23 μ p0 p1 (.ref p0) rfl (.int p1) rfl w2 hw2 (.int s.1) rfl (.int s.2) rfl hr hC
theorem t41L4l (μ : mM) (p0 : Nat) (p1 : Int32) {r : Option Value × mM} (n : Nat) (s : Int32 × Int32) (o : (Unit) ⊕ Int32) (hr : mLoop (s41L4 μ p0 p1) n s = some o) (hC : Sum.elim (fun x : Unit => ∀ (w0 : Value) (hw0 : mNotL w0 = true) (w1 : Value) (hw1 : mNotL w1 = true) (w2 : Value) (hw2 : mNotL w2 = true) (w3 : Value) (hw3 : mNotL w3 = true) (w4 : Value) (hw4 : mNotL w4 = true), mGo mG (41, List.drop 32 mC41, [w0, w1, w2, w3, w4], [], μ) r) (fun y : Int32 => r = (some (.int y), μ)) o) : ∀ (w2 : Value) (hw2 : mNotL w2 = true), mGo mG (41, List.drop 4 mC41, [.ref p0, .int p1, w2, .int s.1, .int s.2], [], μ) r :=
  mLoop_go (Hd := (fun s' : Int32 × Int32 => ∀ (w2 : Value) (hw2 : mNotL w2 = true), mGo mG (41, List.drop 4 mC41, [.ref p0, .int p1, w2, .int s'.1, .int s'.2], [], μ) r)) (fun s o hb hC => t41L4 μ p0 p1 s o hb hC) n s o hr hC
def s41_32 (μ : mM) (a0 : Nat) (a1 : Int32) (a2 : Int32) : Option Int32 :=
  some 1
set_option maxRecDepth 20000 in
theorem t41_32 (μ : mM) (a0 : Nat) (a1 : Int32) (a2 : Int32) (w0 : Value) (hw0 : mNotL w0 = true) (w1 : Value) (hw1 : mNotL w1 = true) (w2 : Value) (hw2 : mNotL w2 = true) (w3 : Value) (hw3 : mNotL w3 = true) (w4 : Value) (hw4 : mNotL w4 = true) {o : Int32} {r : Option Value × mM} (hr : s41_32 μ a0 a1 a2 = some o) (hC : r = (some (.int o), μ)) : mGo mG (41, List.drop 32 mC41, [w0, w1, w2, w3, w4], [], μ) r := by
  unfold s41_32 at hr
  refine mGo.steps 1 (c' := (41, List.drop 33 mC41, [w0, w1, w2, w3, w4], [.int 1], μ)) rfl ?_
  obtain rfl := Option.some.inj hr
  rw [show r = _ from hC]
  exact gZret rfl (by decide)
def s41 (μ : mM) (a0 : Nat) (a1 : Int32) (a2 : Int32) : Option Int32 :=
  (mLoop (s41L4 μ a0 a1) 1000 (a2, 0)).bind fun o15 => Sum.elim (fun x16 => s41_32 μ a0 a1 a2) (fun y17 => some y17) o15
set_option maxRecDepth 20000 in
theorem t41 {μ : mM} {a0 : Nat} {a1 : Int32} {a2 : Int32} {o : Int32} (hr : s41 μ a0 a1 a2 = some o) : mEv mG 41 [.ref a0, .int a1, .int a2] μ (some (.int o)) (μ) := by
  obtain ⟨r, hC⟩ : ∃ r : Option Value × mM, r = (some (.int o), μ) := ⟨_, rfl⟩
  show mGo mG (41, List.drop 0 mC41, [.ref a0, .int a1, .int a2, .retAddr 0, .retAddr 0], [], μ) (some (.int o), μ)
  rw [← hC]
  unfold s41 at hr
  refine mGo.steps 4 (c' := (41, List.drop 4 mC41, [.ref a0, .int a1, .int a2, .int a2, .int 0], [], μ)) rfl ?_
  obtain ⟨o15, h18, hr⟩ := mBi hr
  refine t41L4l μ a0 a1 1000 (a2, 0) o15 h18 ?_ (.int a2) rfl
  cases o15 with
  | inl x16 =>
    show ∀ (w0 : Value) (hw0 : mNotL w0 = true) (w1 : Value) (hw1 : mNotL w1 = true) (w2 : Value) (hw2 : mNotL w2 = true) (w3 : Value) (hw3 : mNotL w3 = true) (w4 : Value) (hw4 : mNotL w4 = true), mGo mG (41, List.drop 32 mC41, [w0, w1, w2, w3, w4], [], μ) r
    intro w0 hw0 w1 hw1 w2 hw2 w3 hw3 w4 hw4
    replace hr : (_) = some _ := hr
    exact t41_32 μ a0 a1 a2 w0 hw0 w1 hw1 w2 hw2 w3 hw3 w4 hw4 hr hC
  | inr y17 =>
    obtain rfl := Option.some.inj hr
    exact hC

/-! 141: TunnelFabric.leastCredits(I)I -/
def s141_5 (μ : mM) (a0 : Int32) (t0 : Int32) : Option Int32 :=
  some t0
set_option maxRecDepth 20000 in
theorem t141_5 (μ : mM) (a0 : Int32) (t0 : Int32) (w0 : Value) (hw0 : mNotL w0 = true) {o : Int32} {r : Option Value × mM} (hr : s141_5 μ a0 t0 = some o) (hC : r = (some (.int o), μ)) : mGo mG (141, List.drop 5 mC141, [w0], [.int t0], μ) r := by
  unfold s141_5 at hr
  obtain rfl := Option.some.inj hr
  rw [show r = _ from hC]
  exact gIret rfl
def s141 (μ : mM) (a0 : Int32) : Option Int32 :=
  if ¬ a0 = 0 then (s141_5 μ a0 1) else (s141_5 μ a0 4)
set_option maxRecDepth 20000 in
theorem t141 {μ : mM} {a0 : Int32} {o : Int32} (hr : s141 μ a0 = some o) : mEv mG 141 [.int a0] μ (some (.int o)) (μ) := by
  obtain ⟨r, hC⟩ : ∃ r : Option Value × mM, r = (some (.int o), μ) := ⟨_, rfl⟩
  show mGo mG (141, List.drop 0 mC141, [.int a0], [], μ) (some (.int o), μ)
  rw [← hC]
  unfold s141 at hr
  refine mGo.steps 1 (c' := (141, List.drop 1 mC141, [.int a0], [.int a0], μ)) rfl ?_
  rcases mIte hr with ⟨h1, hr⟩ | ⟨h1, hr⟩
  · refine gBrT (p := ¬ a0 = 0) (y := 141) (is := List.drop 2 mC141) (L := [.int a0]) (st := []) (μ := μ) (t := 8) rfl h1 ?_
    refine mGo.steps 1 (c' := (141, List.drop 5 mC141, [.int a0], [.int 1], μ)) rfl ?_
    exact t141_5 μ a0 1 (.int a0) rfl hr hC
  · refine gBrF (p := ¬ a0 = 0) (y := 141) (is := List.drop 2 mC141) (L := [.int a0]) (st := []) (μ := μ) (t := 8) rfl h1 ?_
    refine mGo.steps 2 (c' := (141, List.drop 5 mC141, [.int a0], [.int 4], μ)) rfl ?_
    exact t141_5 μ a0 4 (.int a0) rfl hr hC

/-! 42: TunnelFabric$Fabric.creditsSuffice(II)Z -/
def s42L7_26 (μ : mM) (p0 : Nat) (p1 : Int32) (p3 : Int32) : Option ((Int32 × Int32) ⊕ ((Unit) ⊕ Int32)) :=
  some (.inr (.inr 0))
set_option maxRecDepth 20000 in
theorem t42L7_26 (μ : mM) (p0 : Nat) (p1 : Int32) (p3 : Int32) (w0 : Value) (hw0 : mNotL w0 = true) (w1 : Value) (hw1 : mNotL w1 = true) (w2 : Value) (hw2 : mNotL w2 = true) (w3 : Value) (hw3 : mNotL w3 = true) (w4 : Value) (hw4 : mNotL w4 = true) (w5 : Value) (hw5 : mNotL w5 = true) {o : ((Int32 × Int32) ⊕ ((Unit) ⊕ Int32))} {r : Option Value × mM} (hr : s42L7_26 μ p0 p1 p3 = some o) (hC : Sum.elim (fun s' : Int32 × Int32 => ∀ (w2 : Value) (hw2 : mNotL w2 = true), mGo mG (42, List.drop 7 mC42, [.ref p0, .int p1, w2, .int p3, .int s'.1, .int s'.2], [], μ) r) (Sum.elim (fun x : Unit => ∀ (w0 : Value) (hw0 : mNotL w0 = true) (w1 : Value) (hw1 : mNotL w1 = true) (w2 : Value) (hw2 : mNotL w2 = true) (w3 : Value) (hw3 : mNotL w3 = true) (w4 : Value) (hw4 : mNotL w4 = true) (w5 : Value) (hw5 : mNotL w5 = true), mGo mG (42, List.drop 35 mC42, [w0, w1, w2, w3, w4, w5], [], μ) r) (fun y : Int32 => r = (some (.int y), μ))) o) : mGo mG (42, List.drop 26 mC42, [w0, w1, w2, w3, w4, w5], [], μ) r := by
  unfold s42L7_26 at hr
  refine mGo.steps 1 (c' := (42, List.drop 27 mC42, [w0, w1, w2, w3, w4, w5], [.int 0], μ)) rfl ?_
  obtain rfl := Option.some.inj hr
  rw [show r = _ from hC]
  exact gZret rfl (by decide)
def s42L7_28 (μ : mM) (p0 : Nat) (p1 : Int32) (p3 : Int32) (v4 : Int32) (v5 : Int32) : Option ((Int32 × Int32) ⊕ ((Unit) ⊕ Int32)) :=
  if (mS μ p0).1 = 1 then (s18 μ p0 v4).bind fun q7 => if (mS μ q7).1 = 4 then some (.inl (mI μ q7 3, v5 + 1)) else none else none
set_option maxRecDepth 20000 in
theorem t42L7_28 (μ : mM) (p0 : Nat) (p1 : Int32) (p3 : Int32) (v4 : Int32) (v5 : Int32) (w2 : Value) (hw2 : mNotL w2 = true) {o : ((Int32 × Int32) ⊕ ((Unit) ⊕ Int32))} {r : Option Value × mM} (hr : s42L7_28 μ p0 p1 p3 v4 v5 = some o) (hC : Sum.elim (fun s' : Int32 × Int32 => ∀ (w2 : Value) (hw2 : mNotL w2 = true), mGo mG (42, List.drop 7 mC42, [.ref p0, .int p1, w2, .int p3, .int s'.1, .int s'.2], [], μ) r) (Sum.elim (fun x : Unit => ∀ (w0 : Value) (hw0 : mNotL w0 = true) (w1 : Value) (hw1 : mNotL w1 = true) (w2 : Value) (hw2 : mNotL w2 = true) (w3 : Value) (hw3 : mNotL w3 = true) (w4 : Value) (hw4 : mNotL w4 = true) (w5 : Value) (hw5 : mNotL w5 = true), mGo mG (42, List.drop 35 mC42, [w0, w1, w2, w3, w4, w5], [], μ) r) (fun y : Int32 => r = (some (.int y), μ))) o) : mGo mG (42, List.drop 28 mC42, [.ref p0, .int p1, w2, .int p3, .int v4, .int v5], [], μ) r := by
  unfold s42L7_28 at hr
  refine mGo.steps 2 (c' := (42, List.drop 30 mC42, [.ref p0, .int p1, w2, .int p3, .int v4, .int v5], [.int v4, .ref p0], μ)) rfl ?_
  obtain ⟨h6, hr⟩ := mIf hr
  obtain ⟨q7, h8, hr⟩ := mBi hr
  refine gCall (z := 18) (n := 1) (f := 0) (kind := 1) (a := p0) (As := [.int v4]) (y := 42) (is := List.drop 31 mC42) (L := [.ref p0, .int p1, w2, .int p3, .int v4, .int v5]) (rest := []) (μ := μ) rfl (by decide) (by decide) ⟨rfl, rfl⟩ rfl h6 (Nat.le_of_ble_eq_true rfl) (Nat.le_of_ble_eq_true rfl) (t18 h8) ?_
  obtain ⟨h9, hr⟩ := mIf hr
  refine gGet (is := List.drop 32 mC42) (v := .int (mI μ q7 3)) h9 rfl ?_
  refine mGo.steps 3 (c' := (42, List.drop 7 mC42, [.ref p0, .int p1, w2, .int p3, .int (mI μ q7 3), .int (v5 + 1)], [], μ)) rfl ?_
  obtain rfl := Option.some.inj hr
  exact hC w2 hw2
def s42L7 (μ : mM) (p0 : Nat) (p1 : Int32) (p3 : Int32) (s : Int32 × Int32) : Option ((Int32 × Int32) ⊕ ((Unit) ⊕ Int32)) :=
  if 4 ≤ s.2 then (some (.inr (.inl ()))) else (if s.1 = 0 then (some (.inr (.inl ()))) else (if (mS μ p0).1 = 1 then (s36 μ p0 s.1 0).bind fun q4 => if q4 < p3 then (s42L7_26 μ p0 p1 p3) else (if p1 = 0 then (s42L7_28 μ p0 p1 p3 s.1 s.2) else ((s36 μ p0 s.1 1).bind fun q10 => if p3 ≤ q10 then (s42L7_28 μ p0 p1 p3 s.1 s.2) else (s42L7_26 μ p0 p1 p3))) else none))
set_option maxRecDepth 20000 in
theorem t42L7 (μ : mM) (p0 : Nat) (p1 : Int32) (p3 : Int32) {r : Option Value × mM} (s : Int32 × Int32) (o : ((Int32 × Int32) ⊕ ((Unit) ⊕ Int32))) (hr : s42L7 μ p0 p1 p3 s = some o) (hC : Sum.elim (fun s' : Int32 × Int32 => ∀ (w2 : Value) (hw2 : mNotL w2 = true), mGo mG (42, List.drop 7 mC42, [.ref p0, .int p1, w2, .int p3, .int s'.1, .int s'.2], [], μ) r) (Sum.elim (fun x : Unit => ∀ (w0 : Value) (hw0 : mNotL w0 = true) (w1 : Value) (hw1 : mNotL w1 = true) (w2 : Value) (hw2 : mNotL w2 = true) (w3 : Value) (hw3 : mNotL w3 = true) (w4 : Value) (hw4 : mNotL w4 = true) (w5 : Value) (hw5 : mNotL w5 = true), mGo mG (42, List.drop 35 mC42, [w0, w1, w2, w3, w4, w5], [], μ) r) (fun y : Int32 => r = (some (.int y), μ))) o) : ∀ (w2 : Value) (hw2 : mNotL w2 = true), mGo mG (42, List.drop 7 mC42, [.ref p0, .int p1, w2, .int p3, .int s.1, .int s.2], [], μ) r := by
  intro w2 hw2
  unfold s42L7 at hr
  refine mGo.steps 2 (c' := (42, List.drop 9 mC42, [.ref p0, .int p1, w2, .int p3, .int s.1, .int s.2], [.int 4, .int s.2], μ)) rfl ?_
  rcases mIte hr with ⟨h16, hr⟩ | ⟨h16, hr⟩
  · refine gBrT (p := 4 ≤ s.2) (y := 42) (is := List.drop 10 mC42) (L := [.ref p0, .int p1, w2, .int p3, .int s.1, .int s.2]) (st := []) (μ := μ) (t := 67) rfl h16 ?_
    obtain rfl := Option.some.inj hr
    exact hC (.ref p0) rfl (.int p1) rfl w2 hw2 (.int p3) rfl (.int s.1) rfl (.int s.2) rfl
  · refine gBrF (p := 4 ≤ s.2) (y := 42) (is := List.drop 10 mC42) (L := [.ref p0, .int p1, w2, .int p3, .int s.1, .int s.2]) (st := []) (μ := μ) (t := 67) rfl h16 ?_
    refine mGo.steps 1 (c' := (42, List.drop 11 mC42, [.ref p0, .int p1, w2, .int p3, .int s.1, .int s.2], [.int s.1], μ)) rfl ?_
    rcases mIte hr with ⟨h15, hr⟩ | ⟨h15, hr⟩
    · refine gBrT (p := s.1 = 0) (y := 42) (is := List.drop 12 mC42) (L := [.ref p0, .int p1, w2, .int p3, .int s.1, .int s.2]) (st := []) (μ := μ) (t := 67) rfl h15 ?_
      obtain rfl := Option.some.inj hr
      exact hC (.ref p0) rfl (.int p1) rfl w2 hw2 (.int p3) rfl (.int s.1) rfl (.int s.2) rfl
    · refine gBrF (p := s.1 = 0) (y := 42) (is := List.drop 12 mC42) (L := [.ref p0, .int p1, w2, .int p3, .int s.1, .int s.2]) (st := []) (μ := μ) (t := 67) rfl h15 ?_
      refine mGo.steps 3 (c' := (42, List.drop 15 mC42, [.ref p0, .int p1, w2, .int p3, .int s.1, .int s.2], [.int 0, .int s.1, .ref p0], μ)) rfl ?_
      obtain ⟨h3, hr⟩ := mIf hr
      obtain ⟨q4, h5, hr⟩ := mBi hr
      refine gCall (z := 36) (n := 2) (f := 0) (kind := 1) (a := p0) (As := [.int s.1, .int 0]) (y := 42) (is := List.drop 16 mC42) (L := [.ref p0, .int p1, w2, .int p3, .int s.1, .int s.2]) (rest := []) (μ := μ) rfl (by decide) (by decide) ⟨rfl, rfl⟩ rfl h3 (Nat.le_of_ble_eq_true rfl) (Nat.le_of_ble_eq_true rfl) (t36 h5) ?_
      refine mGo.steps 1 (c' := (42, List.drop 17 mC42, [.ref p0, .int p1, w2, .int p3, .int s.1, .int s.2], [.int p3, .int q4], μ)) rfl ?_
      rcases mIte hr with ⟨h14, hr⟩ | ⟨h14, hr⟩
      · refine gBrT (p := q4 < p3) (y := 42) (is := List.drop 18 mC42) (L := [.ref p0, .int p1, w2, .int p3, .int s.1, .int s.2]) (st := []) (μ := μ) (t := 48) rfl h14 ?_
        exact t42L7_26 μ p0 p1 p3 (.ref p0) rfl (.int p1) rfl w2 hw2 (.int p3) rfl (.int s.1) rfl (.int s.2) rfl hr hC
      · refine gBrF (p := q4 < p3) (y := 42) (is := List.drop 18 mC42) (L := [.ref p0, .int p1, w2, .int p3, .int s.1, .int s.2]) (st := []) (μ := μ) (t := 48) rfl h14 ?_
        refine mGo.steps 1 (c' := (42, List.drop 19 mC42, [.ref p0, .int p1, w2, .int p3, .int s.1, .int s.2], [.int p1], μ)) rfl ?_
        rcases mIte hr with ⟨h13, hr⟩ | ⟨h13, hr⟩
        · refine gBrT (p := p1 = 0) (y := 42) (is := List.drop 20 mC42) (L := [.ref p0, .int p1, w2, .int p3, .int s.1, .int s.2]) (st := []) (μ := μ) (t := 50) rfl h13 ?_
          exact t42L7_28 μ p0 p1 p3 s.1 s.2 w2 hw2 hr hC
        · refine gBrF (p := p1 = 0) (y := 42) (is := List.drop 20 mC42) (L := [.ref p0, .int p1, w2, .int p3, .int s.1, .int s.2]) (st := []) (μ := μ) (t := 50) rfl h13 ?_
          refine mGo.steps 3 (c' := (42, List.drop 23 mC42, [.ref p0, .int p1, w2, .int p3, .int s.1, .int s.2], [.int 1, .int s.1, .ref p0], μ)) rfl ?_
          obtain ⟨q10, h11, hr⟩ := mBi hr
          refine gCall (z := 36) (n := 2) (f := 0) (kind := 1) (a := p0) (As := [.int s.1, .int 1]) (y := 42) (is := List.drop 24 mC42) (L := [.ref p0, .int p1, w2, .int p3, .int s.1, .int s.2]) (rest := []) (μ := μ) rfl (by decide) (by decide) ⟨rfl, rfl⟩ rfl h3 (Nat.le_of_ble_eq_true rfl) (Nat.le_of_ble_eq_true rfl) (t36 h11) ?_
          refine mGo.steps 1 (c' := (42, List.drop 25 mC42, [.ref p0, .int p1, w2, .int p3, .int s.1, .int s.2], [.int p3, .int q10], μ)) rfl ?_
          rcases mIte hr with ⟨h12, hr⟩ | ⟨h12, hr⟩
          · refine gBrT (p := p3 ≤ q10) (y := 42) (is := List.drop 26 mC42) (L := [.ref p0, .int p1, w2, .int p3, .int s.1, .int s.2]) (st := []) (μ := μ) (t := 50) rfl h12 ?_
            exact t42L7_28 μ p0 p1 p3 s.1 s.2 w2 hw2 hr hC
          · refine gBrF (p := p3 ≤ q10) (y := 42) (is := List.drop 26 mC42) (L := [.ref p0, .int p1, w2, .int p3, .int s.1, .int s.2]) (st := []) (μ := μ) (t := 50) rfl h12 ?_
            exact t42L7_26 μ p0 p1 p3 (.ref p0) rfl (.int p1) rfl w2 hw2 (.int p3) rfl (.int s.1) rfl (.int s.2) rfl hr hC
theorem t42L7l (μ : mM) (p0 : Nat) (p1 : Int32) (p3 : Int32) {r : Option Value × mM} (n : Nat) (s : Int32 × Int32) (o : (Unit) ⊕ Int32) (hr : mLoop (s42L7 μ p0 p1 p3) n s = some o) (hC : Sum.elim (fun x : Unit => ∀ (w0 : Value) (hw0 : mNotL w0 = true) (w1 : Value) (hw1 : mNotL w1 = true) (w2 : Value) (hw2 : mNotL w2 = true) (w3 : Value) (hw3 : mNotL w3 = true) (w4 : Value) (hw4 : mNotL w4 = true) (w5 : Value) (hw5 : mNotL w5 = true), mGo mG (42, List.drop 35 mC42, [w0, w1, w2, w3, w4, w5], [], μ) r) (fun y : Int32 => r = (some (.int y), μ)) o) : ∀ (w2 : Value) (hw2 : mNotL w2 = true), mGo mG (42, List.drop 7 mC42, [.ref p0, .int p1, w2, .int p3, .int s.1, .int s.2], [], μ) r :=
  mLoop_go (Hd := (fun s' : Int32 × Int32 => ∀ (w2 : Value) (hw2 : mNotL w2 = true), mGo mG (42, List.drop 7 mC42, [.ref p0, .int p1, w2, .int p3, .int s'.1, .int s'.2], [], μ) r)) (fun s o hb hC => t42L7 μ p0 p1 p3 s o hb hC) n s o hr hC
def s42_35 (μ : mM) (a0 : Nat) (a1 : Int32) (a2 : Int32) : Option Int32 :=
  some 1
set_option maxRecDepth 20000 in
theorem t42_35 (μ : mM) (a0 : Nat) (a1 : Int32) (a2 : Int32) (w0 : Value) (hw0 : mNotL w0 = true) (w1 : Value) (hw1 : mNotL w1 = true) (w2 : Value) (hw2 : mNotL w2 = true) (w3 : Value) (hw3 : mNotL w3 = true) (w4 : Value) (hw4 : mNotL w4 = true) (w5 : Value) (hw5 : mNotL w5 = true) {o : Int32} {r : Option Value × mM} (hr : s42_35 μ a0 a1 a2 = some o) (hC : r = (some (.int o), μ)) : mGo mG (42, List.drop 35 mC42, [w0, w1, w2, w3, w4, w5], [], μ) r := by
  unfold s42_35 at hr
  refine mGo.steps 1 (c' := (42, List.drop 36 mC42, [w0, w1, w2, w3, w4, w5], [.int 1], μ)) rfl ?_
  obtain rfl := Option.some.inj hr
  rw [show r = _ from hC]
  exact gZret rfl (by decide)
def s42 (μ : mM) (a0 : Nat) (a1 : Int32) (a2 : Int32) : Option Int32 :=
  (s141 μ a1).bind fun q1 => (mLoop (s42L7 μ a0 a1 q1) 1000 (a2, 0)).bind fun o17 => Sum.elim (fun x18 => s42_35 μ a0 a1 a2) (fun y19 => some y19) o17
set_option maxRecDepth 20000 in
theorem t42 {μ : mM} {a0 : Nat} {a1 : Int32} {a2 : Int32} {o : Int32} (hr : s42 μ a0 a1 a2 = some o) : mEv mG 42 [.ref a0, .int a1, .int a2] μ (some (.int o)) (μ) := by
  obtain ⟨r, hC⟩ : ∃ r : Option Value × mM, r = (some (.int o), μ) := ⟨_, rfl⟩
  show mGo mG (42, List.drop 0 mC42, [.ref a0, .int a1, .int a2, .retAddr 0, .retAddr 0, .retAddr 0], [], μ) (some (.int o), μ)
  rw [← hC]
  unfold s42 at hr
  refine mGo.steps 1 (c' := (42, List.drop 1 mC42, [.ref a0, .int a1, .int a2, .retAddr 0, .retAddr 0, .retAddr 0], [.int a1], μ)) rfl ?_
  obtain ⟨q1, h2, hr⟩ := mBi hr
  refine mGo.call (z := 141) (as := [.int a1]) (y := 42) (is := List.drop 2 mC42) (L := [.ref a0, .int a1, .int a2, .retAddr 0, .retAddr 0, .retAddr 0]) (st := []) (μ := μ) rfl (t141 h2) ?_
  refine mGo.steps 5 (c' := (42, List.drop 7 mC42, [.ref a0, .int a1, .int a2, .int q1, .int a2, .int 0], [], μ)) rfl ?_
  obtain ⟨o17, h20, hr⟩ := mBi hr
  refine t42L7l μ a0 a1 q1 1000 (a2, 0) o17 h20 ?_ (.int a2) rfl
  cases o17 with
  | inl x18 =>
    show ∀ (w0 : Value) (hw0 : mNotL w0 = true) (w1 : Value) (hw1 : mNotL w1 = true) (w2 : Value) (hw2 : mNotL w2 = true) (w3 : Value) (hw3 : mNotL w3 = true) (w4 : Value) (hw4 : mNotL w4 = true) (w5 : Value) (hw5 : mNotL w5 = true), mGo mG (42, List.drop 35 mC42, [w0, w1, w2, w3, w4, w5], [], μ) r
    intro w0 hw0 w1 hw1 w2 hw2 w3 hw3 w4 hw4 w5 hw5
    replace hr : (_) = some _ := hr
    exact t42_35 μ a0 a1 a2 w0 hw0 w1 hw1 w2 hw2 w3 hw3 w4 hw4 w5 hw5 hr hC
  | inr y19 =>
    obtain rfl := Option.some.inj hr
    exact hC

/-! 138: TunnelFabric.deviceFor(I)I -/
def s138 (μ : mM) (a0 : Int32) : Option Int32 :=
  if a0 = 0 then (some 1) else (if a0 = 1 then (some 2) else (some 3))
set_option maxRecDepth 20000 in
theorem t138 {μ : mM} {a0 : Int32} {o : Int32} (hr : s138 μ a0 = some o) : mEv mG 138 [.int a0] μ (some (.int o)) (μ) := by
  obtain ⟨r, hC⟩ : ∃ r : Option Value × mM, r = (some (.int o), μ) := ⟨_, rfl⟩
  show mGo mG (138, List.drop 0 mC138, [.int a0], [], μ) (some (.int o), μ)
  rw [← hC]
  unfold s138 at hr
  refine mGo.steps 1 (c' := (138, List.drop 1 mC138, [.int a0], [.int a0], μ)) rfl ?_
  refine mGo.steps 1 (c' := (138, mSeek (mLs a0 [(0, 27), (1, 29)] [28, 30] 32) (rC (mG 138)), [.int a0], [], μ)) rfl ?_
  rcases mIte hr with ⟨h1, hr⟩ | ⟨h1, hr⟩
  · refine gLs1 (w := 0) h1 rfl ?_
    refine mGo.steps 1 (c' := (138, List.drop 3 mC138, [.int a0], [.int 1], μ)) rfl ?_
    obtain rfl := Option.some.inj hr
    rw [show r = _ from hC]
    exact gIret rfl
  · refine gLs0 (w := 0) h1 rfl ?_
    rcases mIte hr with ⟨h2, hr⟩ | ⟨h2, hr⟩
    · refine gLs1 (w := 1) h2 rfl ?_
      refine mGo.steps 1 (c' := (138, List.drop 5 mC138, [.int a0], [.int 2], μ)) rfl ?_
      obtain rfl := Option.some.inj hr
      rw [show r = _ from hC]
      exact gIret rfl
    · refine gLs0 (w := 1) h2 rfl ?_
      refine mGo.steps 1 (c' := (138, List.drop 7 mC138, [.int a0], [.int 3], μ)) rfl ?_
      obtain rfl := Option.some.inj hr
      rw [show r = _ from hC]
      exact gIret rfl

/-! 139: TunnelFabric.baysFor(I)I -/
def s139_5 (μ : mM) (a0 : Int32) (t0 : Int32) : Option Int32 :=
  some t0
set_option maxRecDepth 20000 in
theorem t139_5 (μ : mM) (a0 : Int32) (t0 : Int32) (w0 : Value) (hw0 : mNotL w0 = true) {o : Int32} {r : Option Value × mM} (hr : s139_5 μ a0 t0 = some o) (hC : r = (some (.int o), μ)) : mGo mG (139, List.drop 5 mC139, [w0], [.int t0], μ) r := by
  unfold s139_5 at hr
  obtain rfl := Option.some.inj hr
  rw [show r = _ from hC]
  exact gIret rfl
def s139 (μ : mM) (a0 : Int32) : Option Int32 :=
  if ¬ a0 = 0 then (s139_5 μ a0 4) else (s139_5 μ a0 2)
set_option maxRecDepth 20000 in
theorem t139 {μ : mM} {a0 : Int32} {o : Int32} (hr : s139 μ a0 = some o) : mEv mG 139 [.int a0] μ (some (.int o)) (μ) := by
  obtain ⟨r, hC⟩ : ∃ r : Option Value × mM, r = (some (.int o), μ) := ⟨_, rfl⟩
  show mGo mG (139, List.drop 0 mC139, [.int a0], [], μ) (some (.int o), μ)
  rw [← hC]
  unfold s139 at hr
  refine mGo.steps 1 (c' := (139, List.drop 1 mC139, [.int a0], [.int a0], μ)) rfl ?_
  rcases mIte hr with ⟨h1, hr⟩ | ⟨h1, hr⟩
  · refine gBrT (p := ¬ a0 = 0) (y := 139) (is := List.drop 2 mC139) (L := [.int a0]) (st := []) (μ := μ) (t := 8) rfl h1 ?_
    refine mGo.steps 1 (c' := (139, List.drop 5 mC139, [.int a0], [.int 4], μ)) rfl ?_
    exact t139_5 μ a0 4 (.int a0) rfl hr hC
  · refine gBrF (p := ¬ a0 = 0) (y := 139) (is := List.drop 2 mC139) (L := [.int a0]) (st := []) (μ := μ) (t := 8) rfl h1 ?_
    refine mGo.steps 2 (c' := (139, List.drop 5 mC139, [.int a0], [.int 2], μ)) rfl ?_
    exact t139_5 μ a0 2 (.int a0) rfl hr hC
