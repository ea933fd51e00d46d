/-! 175: TunnelFabricModel.blanks(I)I -/
def s175L2 (μ : mM) (p0 : Nat) (s : Int32) : Option ((Int32) ⊕ ((Int32) ⊕ Int32)) :=
  if (mS μ p0).1 = 9 then if (mI μ p0 6) ≤ s then (some (.inr (.inl s))) else (if (mS μ (mP μ p0 5)).1 = 10 ∧ mInb s (mS μ (mP μ p0 5)).2 then if ¬ (mI μ (mP μ p0 5) (Int32.toNatClampNeg s)) = 32 then (some (.inr (.inl s))) else (some (.inl (s + 1))) else none) else none
set_option maxRecDepth 20000 in
theorem t175L2 (μ : mM) (p0 : Nat) {r : Option Value × mM} (s : Int32) (o : ((Int32) ⊕ ((Int32) ⊕ Int32))) (hr : s175L2 μ p0 s = some o) (hC : Sum.elim (fun s' : Int32 => ∀ (w1 : Value) (hw1 : mNotL w1 = true), mGo mG (175, List.drop 2 mC175, [.ref p0, w1, .int s'], [], μ) r) (Sum.elim (fun x : Int32 => ∀ (w0 : Value) (hw0 : mNotL w0 = true) (w1 : Value) (hw1 : mNotL w1 = true), mGo mG (175, List.drop 14 mC175, [w0, w1, .int x], [], μ) r) (fun y : Int32 => r = (some (.int y), μ))) o) : ∀ (w1 : Value) (hw1 : mNotL w1 = true), mGo mG (175, List.drop 2 mC175, [.ref p0, w1, .int s], [], μ) r := by
  intro w1 hw1
  unfold s175L2 at hr
  refine mGo.steps 2 (c' := (175, List.drop 4 mC175, [.ref p0, w1, .int s], [.ref p0, .int s], μ)) rfl ?_
  obtain ⟨h1, hr⟩ := mIf hr
  refine gGet (is := List.drop 5 mC175) (v := .int (mI μ p0 6)) h1 rfl ?_
  rcases mIte hr with ⟨h4, hr⟩ | ⟨h4, hr⟩
  · refine gBrT (p := (mI μ p0 6) ≤ s) (y := 175) (is := List.drop 6 mC175) (L := [.ref p0, w1, .int s]) (st := []) (μ := μ) (t := 27) rfl h4 ?_
    obtain rfl := Option.some.inj hr
    exact hC (.ref p0) rfl w1 hw1
  · refine gBrF (p := (mI μ p0 6) ≤ s) (y := 175) (is := List.drop 6 mC175) (L := [.ref p0, w1, .int s]) (st := []) (μ := μ) (t := 27) rfl h4 ?_
    refine mGo.steps 1 (c' := (175, List.drop 7 mC175, [.ref p0, w1, .int s], [.ref p0], μ)) rfl ?_
    refine gGet (is := List.drop 8 mC175) (v := .ref (mP μ p0 5)) h1 rfl ?_
    refine mGo.steps 1 (c' := (175, List.drop 9 mC175, [.ref p0, w1, .int s], [.int s, .ref (mP μ p0 5)], μ)) rfl ?_
    obtain ⟨h2, hr⟩ := mIf hr
    refine gIald (is := List.drop 10 mC175) h2 ?_
    refine mGo.steps 1 (c' := (175, List.drop 11 mC175, [.ref p0, w1, .int s], [.int 32, .int (mI μ (mP μ p0 5) (Int32.toNatClampNeg s))], μ)) rfl ?_
    rcases mIte hr with ⟨h3, hr⟩ | ⟨h3, hr⟩
    · refine gBrT (p := ¬ (mI μ (mP μ p0 5) (Int32.toNatClampNeg s)) = 32) (y := 175) (is := List.drop 12 mC175) (L := [.ref p0, w1, .int s]) (st := []) (μ := μ) (t := 27) rfl h3 ?_
      obtain rfl := Option.some.inj hr
      exact hC (.ref p0) rfl w1 hw1
    · refine gBrF (p := ¬ (mI μ (mP μ p0 5) (Int32.toNatClampNeg s)) = 32) (y := 175) (is := List.drop 12 mC175) (L := [.ref p0, w1, .int s]) (st := []) (μ := μ) (t := 27) rfl h3 ?_
      refine gSt1 (L := [.ref p0, w1, .int s]) (q := 2) (w := .int (s + 1)) (is := List.drop 13 mC175) (st := []) (μ := μ) rfl (Nat.le_of_ble_eq_true rfl) hw1 ?_
      refine mGo.steps 1 (c' := (175, List.drop 2 mC175, [.ref p0, w1, .int (s + 1)], [], μ)) rfl ?_
      obtain rfl := Option.some.inj hr
      exact hC w1 hw1
theorem t175L2l (μ : mM) (p0 : Nat) {r : Option Value × mM} (n : Nat) (s : Int32) (o : (Int32) ⊕ Int32) (hr : mLoop (s175L2 μ p0) n s = some o) (hC : Sum.elim (fun x : Int32 => ∀ (w0 : Value) (hw0 : mNotL w0 = true) (w1 : Value) (hw1 : mNotL w1 = true), mGo mG (175, List.drop 14 mC175, [w0, w1, .int x], [], μ) r) (fun y : Int32 => r = (some (.int y), μ)) o) : ∀ (w1 : Value) (hw1 : mNotL w1 = true), mGo mG (175, List.drop 2 mC175, [.ref p0, w1, .int s], [], μ) r :=
  mLoop_go (Hd := (fun s' : Int32 => ∀ (w1 : Value) (hw1 : mNotL w1 = true), mGo mG (175, List.drop 2 mC175, [.ref p0, w1, .int s'], [], μ) r)) (fun s o hb hC => t175L2 μ p0 s o hb hC) n s o hr hC
def s175_14 (μ : mM) (a0 : Nat) (a1 : Int32) (v2 : Int32) : Option Int32 :=
  some v2
set_option maxRecDepth 20000 in
theorem t175_14 (μ : mM) (a0 : Nat) (a1 : Int32) (v2 : Int32) (w0 : Value) (hw0 : mNotL w0 = true) (w1 : Value) (hw1 : mNotL w1 = true) {o : Int32} {r : Option Value × mM} (hr : s175_14 μ a0 a1 v2 = some o) (hC : r = (some (.int o), μ)) : mGo mG (175, List.drop 14 mC175, [w0, w1, .int v2], [], μ) r := by
  unfold s175_14 at hr
  refine mGo.steps 1 (c' := (175, List.drop 15 mC175, [w0, w1, .int v2], [.int v2], μ)) rfl ?_
  obtain rfl := Option.some.inj hr
  rw [show r = _ from hC]
  exact gIret rfl
def s175 (μ : mM) (a0 : Nat) (a1 : Int32) : Option Int32 :=
  (mLoop (s175L2 μ a0) 1000 a1).bind fun o5 => Sum.elim (fun x6 => s175_14 μ a0 a1 x6) (fun y7 => some y7) o5
set_option maxRecDepth 20000 in
theorem t175 {μ : mM} {a0 : Nat} {a1 : Int32} {o : Int32} (hr : s175 μ a0 a1 = some o) : mEv mG 175 [.ref a0, .int a1] μ (some (.int o)) (μ) := by
  obtain ⟨r, hC⟩ : ∃ r : Option Value × mM, r = (some (.int o), μ) := ⟨_, rfl⟩
  show mGo mG (175, List.drop 0 mC175, [.ref a0, .int a1, .retAddr 0], [], μ) (some (.int o), μ)
  rw [← hC]
  unfold s175 at hr
  refine mGo.steps 2 (c' := (175, List.drop 2 mC175, [.ref a0, .int a1, .int a1], [], μ)) rfl ?_
  obtain ⟨o5, h8, hr⟩ := mBi hr
  refine t175L2l μ a0 1000 a1 o5 h8 ?_ (.int a1) rfl
  cases o5 with
  | inl x6 =>
    show ∀ (w0 : Value) (hw0 : mNotL w0 = true) (w1 : Value) (hw1 : mNotL w1 = true), mGo mG (175, List.drop 14 mC175, [w0, w1, .int x6], [], μ) r
    intro w0 hw0 w1 hw1
    replace hr : (_) = some _ := hr
    exact t175_14 μ a0 a1 x6 w0 hw0 w1 hw1 hr hC
  | inr y7 =>
    obtain rfl := Option.some.inj hr
    exact hC

/-! 176: TunnelFabricModel.takes(II)Z -/
def s176_31 (a0 : Nat) (a1 : Int32) (a2 : Int32) (μ : mM) : Option (Int32 × mM) :=
  some (0, μ)
set_option maxRecDepth 20000 in
theorem t176_31 (a0 : Nat) (a1 : Int32) (a2 : Int32) (μ : mM) (w0 : Value) (hw0 : mNotL w0 = true) (w1 : Value) (hw1 : mNotL w1 = true) (w2 : Value) (hw2 : mNotL w2 = true) (w3 : Value) (hw3 : mNotL w3 = true) (w4 : Value) (hw4 : mNotL w4 = true) {o : (Int32 × mM)} {r : Option Value × mM} (hr : s176_31 a0 a1 a2 μ = some o) (hC : r = (some (.int o.1), o.2)) : mGo mG (176, List.drop 31 mC176, [w0, w1, w2, w3, w4], [], μ) r := by
  unfold s176_31 at hr
  refine mGo.steps 1 (c' := (176, List.drop 32 mC176, [w0, w1, w2, w3, w4], [.int 0], μ)) rfl ?_
  obtain rfl := Option.some.inj hr
  rw [show r = _ from hC]
  exact gZret rfl (by decide)
def s176_13 (a0 : Nat) (a1 : Int32) (a2 : Int32) (μ : mM) (v3 : Int32) (t0 : Int32) : Option (Int32 × mM) :=
  if a1 = (-10) then (s176_31 a0 a1 a2 μ) else (if (mS μ a0).1 = 9 then if (mS μ (mP μ a0 13)).1 = 10 ∧ mInb a2 (mS μ (mP μ a0 13)).2 then (s146 μ t0).bind fun q6 => if (mI μ (mP μ a0 13) (Int32.toNatClampNeg a2)) = q6 then (s176_31 a0 a1 a2 μ) else (if (mI μ a0 11) = 7 then (s176_31 a0 a1 a2 μ) else (if ¬ a2 = 4 then ((some (mUI μ a0 11 ((mI μ a0 11) + 1))).bind fun μ8 => if (mS μ8 (mP μ8 a0 7)).1 = 10 ∧ mInb (mI μ8 a0 11) (mS μ8 (mP μ8 a0 7)).2 then (some (mUI μ8 (mP μ8 a0 7) (Int32.toNatClampNeg (mI μ8 a0 11)) a1)).bind fun μ10 => if (mS μ10 (mP μ10 a0 9)).1 = 10 ∧ mInb (mI μ10 a0 11) (mS μ10 (mP μ10 a0 9)).2 then (some (mUI μ10 (mP μ10 a0 9) (Int32.toNatClampNeg (mI μ10 a0 11)) v3)).bind fun μ12 => if (mS μ12 (mP μ12 a0 13)).1 = 10 ∧ mInb a2 (mS μ12 (mP μ12 a0 13)).2 then if (mS μ12 (mP μ12 a0 10)).1 = 10 ∧ mInb (mI μ12 a0 11) (mS μ12 (mP μ12 a0 10)).2 then (some (mUI μ12 (mP μ12 a0 10) (Int32.toNatClampNeg (mI μ12 a0 11)) (mI μ12 (mP μ12 a0 13) (Int32.toNatClampNeg a2)))).bind fun μ15 => if (mS μ15 (mP μ15 a0 13)).1 = 10 ∧ mInb a2 (mS μ15 (mP μ15 a0 13)).2 then (some (mUI μ15 (mP μ15 a0 13) (Int32.toNatClampNeg a2) ((mI μ15 (mP μ15 a0 13) (Int32.toNatClampNeg a2)) + 1))).bind fun μ17 => some (1, μ17) else none else none else none else none else none) else (s176_31 a0 a1 a2 μ))) else none else none)
set_option maxRecDepth 20000 in
theorem t176_13 (a0 : Nat) (a1 : Int32) (a2 : Int32) (μ : mM) (v3 : Int32) (t0 : Int32) (w4 : Value) (hw4 : mNotL w4 = true) {o : (Int32 × mM)} {r : Option Value × mM} (hr : s176_13 a0 a1 a2 μ v3 t0 = some o) (hC : r = (some (.int o.1), o.2)) : mGo mG (176, List.drop 13 mC176, [.ref a0, .int a1, .int a2, .int v3, w4], [.int t0], μ) r := by
  unfold s176_13 at hr
  refine mGo.steps 3 (c' := (176, List.drop 16 mC176, [.ref a0, .int a1, .int a2, .int v3, .int t0], [.int (-10), .int a1], μ)) rfl ?_
  rcases mIte hr with ⟨h21, hr⟩ | ⟨h21, hr⟩
  · refine gBrT (p := a1 = (-10)) (y := 176) (is := List.drop 17 mC176) (L := [.ref a0, .int a1, .int a2, .int v3, .int t0]) (st := []) (μ := μ) (t := 57) rfl h21 ?_
    exact t176_31 a0 a1 a2 μ (.ref a0) rfl (.int a1) rfl (.int a2) rfl (.int v3) rfl (.int t0) rfl hr hC
  · refine gBrF (p := a1 = (-10)) (y := 176) (is := List.drop 17 mC176) (L := [.ref a0, .int a1, .int a2, .int v3, .int t0]) (st := []) (μ := μ) (t := 57) rfl h21 ?_
    refine mGo.steps 1 (c' := (176, List.drop 18 mC176, [.ref a0, .int a1, .int a2, .int v3, .int t0], [.ref a0], μ)) rfl ?_
    obtain ⟨h4, hr⟩ := mIf hr
    refine gGet (is := List.drop 19 mC176) (v := .ref (mP μ a0 13)) h4 rfl ?_
    refine mGo.steps 1 (c' := (176, List.drop 20 mC176, [.ref a0, .int a1, .int a2, .int v3, .int t0], [.int a2, .ref (mP μ a0 13)], μ)) rfl ?_
    obtain ⟨h5, hr⟩ := mIf hr
    refine gIald (is := List.drop 21 mC176) h5 ?_
    refine mGo.steps 1 (c' := (176, List.drop 22 mC176, [.ref a0, .int a1, .int a2, .int v3, .int t0], [.int t0, .int (mI μ (mP μ a0 13) (Int32.toNatClampNeg a2))], μ)) rfl ?_
    obtain ⟨q6, h7, hr⟩ := mBi hr
    refine mGo.call (z := 146) (as := [.int t0]) (y := 176) (is := List.drop 23 mC176) (L := [.ref a0, .int a1, .int a2, .int v3, .int t0]) (st := [.int (mI μ (mP μ a0 13) (Int32.toNatClampNeg a2))]) (μ := μ) rfl (t146 h7) ?_
    rcases mIte hr with ⟨h20, hr⟩ | ⟨h20, hr⟩
    · refine gBrT (p := (mI μ (mP μ a0 13) (Int32.toNatClampNeg a2)) = q6) (y := 176) (is := List.drop 24 mC176) (L := [.ref a0, .int a1, .int a2, .int v3, .int t0]) (st := []) (μ := μ) (t := 57) rfl h20 ?_
      exact t176_31 a0 a1 a2 μ (.ref a0) rfl (.int a1) rfl (.int a2) rfl (.int v3) rfl (.int t0) rfl hr hC
    · refine gBrF (p := (mI μ (mP μ a0 13) (Int32.toNatClampNeg a2)) = q6) (y := 176) (is := List.drop 24 mC176) (L := [.ref a0, .int a1, .int a2, .int v3, .int t0]) (st := []) (μ := μ) (t := 57) rfl h20 ?_
      refine mGo.steps 1 (c' := (176, List.drop 25 mC176, [.ref a0, .int a1, .int a2, .int v3, .int t0], [.ref a0], μ)) rfl ?_
      refine gGet (is := List.drop 26 mC176) (v := .int (mI μ a0 11)) h4 rfl ?_
      refine mGo.steps 1 (c' := (176, List.drop 27 mC176, [.ref a0, .int a1, .int a2, .int v3, .int t0], [.int 7, .int (mI μ a0 11)], μ)) rfl ?_
      rcases mIte hr with ⟨h19, hr⟩ | ⟨h19, hr⟩
      · refine gBrT (p := (mI μ a0 11) = 7) (y := 176) (is := List.drop 28 mC176) (L := [.ref a0, .int a1, .int a2, .int v3, .int t0]) (st := []) (μ := μ) (t := 57) rfl h19 ?_
        exact t176_31 a0 a1 a2 μ (.ref a0) rfl (.int a1) rfl (.int a2) rfl (.int v3) rfl (.int t0) rfl hr hC
      · refine gBrF (p := (mI μ a0 11) = 7) (y := 176) (is := List.drop 28 mC176) (L := [.ref a0, .int a1, .int a2, .int v3, .int t0]) (st := []) (μ := μ) (t := 57) rfl h19 ?_
        refine mGo.steps 2 (c' := (176, List.drop 30 mC176, [.ref a0, .int a1, .int a2, .int v3, .int t0], [.int 4, .int a2], μ)) rfl ?_
        rcases mIte hr with ⟨h18, hr⟩ | ⟨h18, hr⟩
        · refine gBrT (p := ¬ a2 = 4) (y := 176) (is := List.drop 31 mC176) (L := [.ref a0, .int a1, .int a2, .int v3, .int t0]) (st := []) (μ := μ) (t := 59) rfl h18 ?_
          refine mGo.steps 2 (c' := (176, List.drop 35 mC176, [.ref a0, .int a1, .int a2, .int v3, .int t0], [.ref a0, .ref a0], μ)) rfl ?_
          refine gGet (is := List.drop 36 mC176) (v := .int (mI μ a0 11)) h4 rfl ?_
          refine mGo.steps 2 (c' := (176, List.drop 38 mC176, [.ref a0, .int a1, .int a2, .int v3, .int t0], [.int ((mI μ a0 11) + 1), .ref a0], μ)) rfl ?_
          replace hr := mBs hr
          refine gPut (is := List.drop 39 mC176) (μ' := mUI μ a0 11 ((mI μ a0 11) + 1)) h4 rfl ?_
          let μ8 : mM := mUI μ a0 11 ((mI μ a0 11) + 1)
          refine mGo.steps 1 (c' := (176, List.drop 40 mC176, [.ref a0, .int a1, .int a2, .int v3, .int t0], [.ref a0], μ8)) rfl ?_
          refine gGet (is := List.drop 41 mC176) (v := .ref (mP μ8 a0 7)) h4 rfl ?_
          refine mGo.steps 1 (c' := (176, List.drop 42 mC176, [.ref a0, .int a1, .int a2, .int v3, .int t0], [.ref a0, .ref (mP μ8 a0 7)], μ8)) rfl ?_
          refine gGet (is := List.drop 43 mC176) (v := .int (mI μ8 a0 11)) h4 rfl ?_
          refine mGo.steps 1 (c' := (176, List.drop 44 mC176, [.ref a0, .int a1, .int a2, .int v3, .int t0], [.int a1, .int (mI μ8 a0 11), .ref (mP μ8 a0 7)], μ8)) rfl ?_
          obtain ⟨h9, hr⟩ := mIf hr
          replace hr := mBs hr
          refine gIast (is := List.drop 45 mC176) h9 ?_
          let μ10 : mM := mUI μ8 (mP μ8 a0 7) (Int32.toNatClampNeg (mI μ8 a0 11)) a1
          refine mGo.steps 1 (c' := (176, List.drop 46 mC176, [.ref a0, .int a1, .int a2, .int v3, .int t0], [.ref a0], μ10)) rfl ?_
          refine gGet (is := List.drop 47 mC176) (v := .ref (mP μ10 a0 9)) h4 rfl ?_
          refine mGo.steps 1 (c' := (176, List.drop 48 mC176, [.ref a0, .int a1, .int a2, .int v3, .int t0], [.ref a0, .ref (mP μ10 a0 9)], μ10)) rfl ?_
          refine gGet (is := List.drop 49 mC176) (v := .int (mI μ10 a0 11)) h4 rfl ?_
          refine mGo.steps 1 (c' := (176, List.drop 50 mC176, [.ref a0, .int a1, .int a2, .int v3, .int t0], [.int v3, .int (mI μ10 a0 11), .ref (mP μ10 a0 9)], μ10)) rfl ?_
          obtain ⟨h11, hr⟩ := mIf hr
          replace hr := mBs hr
          refine gIast (is := List.drop 51 mC176) h11 ?_
          let μ12 : mM := mUI μ10 (mP μ10 a0 9) (Int32.toNatClampNeg (mI μ10 a0 11)) v3
          refine mGo.steps 1 (c' := (176, List.drop 52 mC176, [.ref a0, .int a1, .int a2, .int v3, .int t0], [.ref a0], μ12)) rfl ?_
          refine gGet (is := List.drop 53 mC176) (v := .ref (mP μ12 a0 10)) h4 rfl ?_
          refine mGo.steps 1 (c' := (176, List.drop 54 mC176, [.ref a0, .int a1, .int a2, .int v3, .int t0], [.ref a0, .ref (mP μ12 a0 10)], μ12)) rfl ?_
          refine gGet (is := List.drop 55 mC176) (v := .int (mI μ12 a0 11)) h4 rfl ?_
          refine mGo.steps 1 (c' := (176, List.drop 56 mC176, [.ref a0, .int a1, .int a2, .int v3, .int t0], [.ref a0, .int (mI μ12 a0 11), .ref (mP μ12 a0 10)], μ12)) rfl ?_
          refine gGet (is := List.drop 57 mC176) (v := .ref (mP μ12 a0 13)) h4 rfl ?_
          refine mGo.steps 1 (c' := (176, List.drop 58 mC176, [.ref a0, .int a1, .int a2, .int v3, .int t0], [.int a2, .ref (mP μ12 a0 13), .int (mI μ12 a0 11), .ref (mP μ12 a0 10)], μ12)) rfl ?_
          obtain ⟨h13, hr⟩ := mIf hr
          refine gIald (is := List.drop 59 mC176) h13 ?_
          obtain ⟨h14, hr⟩ := mIf hr
          replace hr := mBs hr
          refine gIast (is := List.drop 60 mC176) h14 ?_
          let μ15 : mM := mUI μ12 (mP μ12 a0 10) (Int32.toNatClampNeg (mI μ12 a0 11)) (mI μ12 (mP μ12 a0 13) (Int32.toNatClampNeg a2))
          refine mGo.steps 1 (c' := (176, List.drop 61 mC176, [.ref a0, .int a1, .int a2, .int v3, .int t0], [.ref a0], μ15)) rfl ?_
          refine gGet (is := List.drop 62 mC176) (v := .ref (mP μ15 a0 13)) h4 rfl ?_
          refine mGo.steps 2 (c' := (176, List.drop 64 mC176, [.ref a0, .int a1, .int a2, .int v3, .int t0], [.int a2, .ref (mP μ15 a0 13), .int a2, .ref (mP μ15 a0 13)], μ15)) rfl ?_
          obtain ⟨h16, hr⟩ := mIf hr
          refine gIald (is := List.drop 65 mC176) h16 ?_
          refine mGo.steps 2 (c' := (176, List.drop 67 mC176, [.ref a0, .int a1, .int a2, .int v3, .int t0], [.int ((mI μ15 (mP μ15 a0 13) (Int32.toNatClampNeg a2)) + 1), .int a2, .ref (mP μ15 a0 13)], μ15)) rfl ?_
          replace hr := mBs hr
          refine gIast (is := List.drop 68 mC176) h16 ?_
          let μ17 : mM := mUI μ15 (mP μ15 a0 13) (Int32.toNatClampNeg a2) ((mI μ15 (mP μ15 a0 13) (Int32.toNatClampNeg a2)) + 1)
          refine mGo.steps 1 (c' := (176, List.drop 69 mC176, [.ref a0, .int a1, .int a2, .int v3, .int t0], [.int 1], μ17)) rfl ?_
          obtain rfl := Option.some.inj hr
          rw [show r = _ from hC]
          exact gZret rfl (by decide)
        · refine gBrF (p := ¬ a2 = 4) (y := 176) (is := List.drop 31 mC176) (L := [.ref a0, .int a1, .int a2, .int v3, .int t0]) (st := []) (μ := μ) (t := 59) rfl h18 ?_
          exact t176_31 a0 a1 a2 μ (.ref a0) rfl (.int a1) rfl (.int a2) rfl (.int v3) rfl (.int t0) rfl hr hC
def s176 (μ : mM) (a0 : Nat) (a1 : Int32) (a2 : Int32) : Option (Int32 × mM) :=
  if (mS μ a0).1 = 9 then if (mS μ (mP μ a0 12)).1 = 10 ∧ mInb a2 (mS μ (mP μ a0 12)).2 then if ¬ a2 = 0 then (if (mS μ (mP μ a0 7)).1 = 10 ∧ mInb (mI μ (mP μ a0 12) (Int32.toNatClampNeg a2)) (mS μ (mP μ a0 7)).2 then s176_13 a0 a1 a2 μ (mI μ (mP μ a0 12) (Int32.toNatClampNeg a2)) (mI μ (mP μ a0 7) (Int32.toNatClampNeg (mI μ (mP μ a0 12) (Int32.toNatClampNeg a2)))) else none) else (s176_13 a0 a1 a2 μ (mI μ (mP μ a0 12) (Int32.toNatClampNeg a2)) 4) else none else none
set_option maxRecDepth 20000 in
theorem t176 {μ : mM} {a0 : Nat} {a1 : Int32} {a2 : Int32} {o : (Int32 × mM)} (hr : s176 μ a0 a1 a2 = some o) : mEv mG 176 [.ref a0, .int a1, .int a2] μ (some (.int o.1)) (o.2) := by
  obtain ⟨r, hC⟩ : ∃ r : Option Value × mM, r = (some (.int o.1), o.2) := ⟨_, rfl⟩
  show mGo mG (176, List.drop 0 mC176, [.ref a0, .int a1, .int a2, .retAddr 0, .retAddr 0], [], μ) (some (.int o.1), o.2)
  rw [← hC]
  unfold s176 at hr
  refine mGo.steps 1 (c' := (176, List.drop 1 mC176, [.ref a0, .int a1, .int a2, .retAddr 0, .retAddr 0], [.ref a0], μ)) rfl ?_
  obtain ⟨h1, hr⟩ := mIf hr
  refine gGet (is := List.drop 2 mC176) (v := .ref (mP μ a0 12)) h1 rfl ?_
  refine mGo.steps 1 (c' := (176, List.drop 3 mC176, [.ref a0, .int a1, .int a2, .retAddr 0, .retAddr 0], [.int a2, .ref (mP μ a0 12)], μ)) rfl ?_
  obtain ⟨h2, hr⟩ := mIf hr
  refine gIald (is := List.drop 4 mC176) h2 ?_
  refine mGo.steps 2 (c' := (176, List.drop 6 mC176, [.ref a0, .int a1, .int a2, .int (mI μ (mP μ a0 12) (Int32.toNatClampNeg a2)), .retAddr 0], [.int a2], μ)) rfl ?_
  rcases mIte hr with ⟨h22, hr⟩ | ⟨h22, hr⟩
  · refine gBrT (p := ¬ a2 = 0) (y := 176) (is := List.drop 7 mC176) (L := [.ref a0, .int a1, .int a2, .int (mI μ (mP μ a0 12) (Int32.toNatClampNeg a2)), .retAddr 0]) (st := []) (μ := μ) (t := 15) rfl h22 ?_
    refine mGo.steps 1 (c' := (176, List.drop 10 mC176, [.ref a0, .int a1, .int a2, .int (mI μ (mP μ a0 12) (Int32.toNatClampNeg a2)), .retAddr 0], [.ref a0], μ)) rfl ?_
    refine gGet (is := List.drop 11 mC176) (v := .ref (mP μ a0 7)) h1 rfl ?_
    refine mGo.steps 1 (c' := (176, List.drop 12 mC176, [.ref a0, .int a1, .int a2, .int (mI μ (mP μ a0 12) (Int32.toNatClampNeg a2)), .retAddr 0], [.int (mI μ (mP μ a0 12) (Int32.toNatClampNeg a2)), .ref (mP μ a0 7)], μ)) rfl ?_
    obtain ⟨h3, hr⟩ := mIf hr
    refine gIald (is := List.drop 13 mC176) h3 ?_
    exact t176_13 a0 a1 a2 μ (mI μ (mP μ a0 12) (Int32.toNatClampNeg a2)) (mI μ (mP μ a0 7) (Int32.toNatClampNeg (mI μ (mP μ a0 12) (Int32.toNatClampNeg a2)))) (.retAddr 0) rfl hr hC
  · refine gBrF (p := ¬ a2 = 0) (y := 176) (is := List.drop 7 mC176) (L := [.ref a0, .int a1, .int a2, .int (mI μ (mP μ a0 12) (Int32.toNatClampNeg a2)), .retAddr 0]) (st := []) (μ := μ) (t := 15) rfl h22 ?_
    refine mGo.steps 2 (c' := (176, List.drop 13 mC176, [.ref a0, .int a1, .int a2, .int (mI μ (mP μ a0 12) (Int32.toNatClampNeg a2)), .retAddr 0], [.int 4], μ)) rfl ?_
    exact t176_13 a0 a1 a2 μ (mI μ (mP μ a0 12) (Int32.toNatClampNeg a2)) 4 (.retAddr 0) rfl hr hC

/-! 177: TunnelFabricModel.fault()I -/
def s177L21_83 (p0 : Nat) (μ : mM) (v3 : Int32) : Option ((Int32 × Int32 × Int32 × mM) ⊕ ((Int32 × mM) ⊕ (Int32 × mM))) :=
  some (.inr (.inr (v3, μ)))
set_option maxRecDepth 20000 in
theorem t177L21_83 (p0 : Nat) (μ : mM) (v3 : Int32) (w0 : Value) (hw0 : mNotL w0 = true) (w1 : Value) (hw1 : mNotL w1 = true) (w2 : Value) (hw2 : mNotL w2 = true) (w4 : Value) (hw4 : mNotL w4 = true) {o : ((Int32 × Int32 × Int32 × mM) ⊕ ((Int32 × mM) ⊕ (Int32 × mM)))} {r : Option Value × mM} (hr : s177L21_83 p0 μ v3 = some o) (hC : Sum.elim (fun s' : Int32 × Int32 × Int32 × mM => ∀ (w4 : Value) (hw4 : mNotL w4 = true), mGo mG (177, List.drop 21 mC177, [.ref p0, .int s'.1, .int s'.2.1, .int s'.2.2.1, w4], [], s'.2.2.2) r) (Sum.elim (fun x : Int32 × mM => ∀ (w2 : Value) (hw2 : mNotL w2 = true) (w3 : Value) (hw3 : mNotL w3 = true) (w4 : Value) (hw4 : mNotL w4 = true), mGo mG (177, List.drop 108 mC177, [.ref p0, .int x.1, w2, w3, w4], [], x.2) r) (fun y : (Int32 × mM) => r = (some (.int y.1), y.2))) o) : mGo mG (177, List.drop 83 mC177, [w0, w1, w2, .int v3, w4], [], μ) r := by
  unfold s177L21_83 at hr
  refine mGo.steps 1 (c' := (177, List.drop 84 mC177, [w0, w1, w2, .int v3, w4], [.int v3], μ)) rfl ?_
  obtain rfl := Option.some.inj hr
  rw [show r = _ from hC]
  exact gIret rfl
def s177L21_101 (p0 : Nat) (μ : mM) (v1 : Int32) (v2 : Int32) (v3 : Int32) : Option ((Int32 × Int32 × Int32 × mM) ⊕ ((Int32 × mM) ⊕ (Int32 × mM))) :=
  if (mS μ p0).1 = 9 then (s175 μ p0 (v3 + 1)).bind fun q25 => some (.inl (v1, v2, q25, μ)) else none
set_option maxRecDepth 20000 in
theorem t177L21_101 (p0 : Nat) (μ : mM) (v1 : Int32) (v2 : Int32) (v3 : Int32) (w4 : Value) (hw4 : mNotL w4 = true) {o : ((Int32 × Int32 × Int32 × mM) ⊕ ((Int32 × mM) ⊕ (Int32 × mM)))} {r : Option Value × mM} (hr : s177L21_101 p0 μ v1 v2 v3 = some o) (hC : Sum.elim (fun s' : Int32 × Int32 × Int32 × mM => ∀ (w4 : Value) (hw4 : mNotL w4 = true), mGo mG (177, List.drop 21 mC177, [.ref p0, .int s'.1, .int s'.2.1, .int s'.2.2.1, w4], [], s'.2.2.2) r) (Sum.elim (fun x : Int32 × mM => ∀ (w2 : Value) (hw2 : mNotL w2 = true) (w3 : Value) (hw3 : mNotL w3 = true) (w4 : Value) (hw4 : mNotL w4 = true), mGo mG (177, List.drop 108 mC177, [.ref p0, .int x.1, w2, w3, w4], [], x.2) r) (fun y : (Int32 × mM) => r = (some (.int y.1), y.2))) o) : mGo mG (177, List.drop 101 mC177, [.ref p0, .int v1, .int v2, .int v3, w4], [], μ) r := by
  unfold s177L21_101 at hr
  refine mGo.steps 4 (c' := (177, List.drop 105 mC177, [.ref p0, .int v1, .int v2, .int v3, w4], [.int (v3 + 1), .ref p0], μ)) rfl ?_
  obtain ⟨h24, hr⟩ := mIf hr
  obtain ⟨q25, h26, hr⟩ := mBi hr
  refine gCall (z := 175) (n := 1) (f := 0) (kind := 1) (a := p0) (As := [.int (v3 + 1)]) (y := 177) (is := List.drop 106 mC177) (L := [.ref p0, .int v1, .int v2, .int v3, w4]) (rest := []) (μ := μ) rfl (by decide) (by decide) ⟨rfl, rfl⟩ rfl h24 (Nat.le_of_ble_eq_true rfl) (Nat.le_of_ble_eq_true rfl) (t175 h26) ?_
  refine mGo.steps 2 (c' := (177, List.drop 21 mC177, [.ref p0, .int v1, .int v2, .int q25, w4], [], μ)) rfl ?_
  obtain rfl := Option.some.inj hr
  exact hC w4 hw4
def s177L21_59 (p0 : Nat) (μ : mM) (v1 : Int32) (v3 : Int32) (v4 : Int32) : Option ((Int32 × Int32 × Int32 × mM) ⊕ ((Int32 × mM) ⊕ (Int32 × mM))) :=
  (s174 μ v4).bind fun q11 => if (mS μ p0).1 = 9 then (s176 μ p0 q11 v1).bind fun q14 => if q14.1 = 0 then (some (.inr (.inr (v3, q14.2)))) else (if (mS q14.2 p0).1 = 9 then (s175 q14.2 p0 (v3 + 1)).bind fun q17 => if q17 = (mI q14.2 p0 6) then (s177L21_83 p0 q14.2 q17) else (if (mS q14.2 (mP q14.2 p0 5)).1 = 10 ∧ mInb q17 (mS q14.2 (mP q14.2 p0 5)).2 then (s144 q14.2 (mI q14.2 (mP q14.2 p0 5) (Int32.toNatClampNeg q17)) 49 51).bind fun q20 => if ¬ q20 = 0 then (if (mS q14.2 (mP q14.2 p0 8)).1 = 10 ∧ mInb (mI q14.2 p0 11) (mS q14.2 (mP q14.2 p0 8)).2 then (some (mUI q14.2 (mP q14.2 p0 8) (Int32.toNatClampNeg (mI q14.2 p0 11)) ((mI q14.2 (mP q14.2 p0 5) (Int32.toNatClampNeg q17)) - 48))).bind fun μ23 => s177L21_101 p0 μ23 v1 1 q17 else none) else (s177L21_83 p0 q14.2 q17) else none) else none) else none
set_option maxRecDepth 20000 in
theorem t177L21_59 (p0 : Nat) (μ : mM) (v1 : Int32) (v3 : Int32) (v4 : Int32) (w2 : Value) (hw2 : mNotL w2 = true) {o : ((Int32 × Int32 × Int32 × mM) ⊕ ((Int32 × mM) ⊕ (Int32 × mM)))} {r : Option Value × mM} (hr : s177L21_59 p0 μ v1 v3 v4 = some o) (hC : Sum.elim (fun s' : Int32 × Int32 × Int32 × mM => ∀ (w4 : Value) (hw4 : mNotL w4 = true), mGo mG (177, List.drop 21 mC177, [.ref p0, .int s'.1, .int s'.2.1, .int s'.2.2.1, w4], [], s'.2.2.2) r) (Sum.elim (fun x : Int32 × mM => ∀ (w2 : Value) (hw2 : mNotL w2 = true) (w3 : Value) (hw3 : mNotL w3 = true) (w4 : Value) (hw4 : mNotL w4 = true), mGo mG (177, List.drop 108 mC177, [.ref p0, .int x.1, w2, w3, w4], [], x.2) r) (fun y : (Int32 × mM) => r = (some (.int y.1), y.2))) o) : mGo mG (177, List.drop 59 mC177, [.ref p0, .int v1, w2, .int v3, .int v4], [], μ) r := by
  unfold s177L21_59 at hr
  refine mGo.steps 2 (c' := (177, List.drop 61 mC177, [.ref p0, .int v1, w2, .int v3, .int v4], [.int v4, .ref p0], μ)) rfl ?_
  obtain ⟨q11, h12, hr⟩ := mBi hr
  refine mGo.call (z := 174) (as := [.int v4]) (y := 177) (is := List.drop 62 mC177) (L := [.ref p0, .int v1, w2, .int v3, .int v4]) (st := [.ref p0]) (μ := μ) rfl (t174 h12) ?_
  refine mGo.steps 1 (c' := (177, List.drop 63 mC177, [.ref p0, .int v1, w2, .int v3, .int v4], [.int v1, .int q11, .ref p0], μ)) rfl ?_
  obtain ⟨h13, hr⟩ := mIf hr
  obtain ⟨q14, h15, hr⟩ := mBi hr
  refine gCall (z := 176) (n := 2) (f := 0) (kind := 1) (a := p0) (As := [.int q11, .int v1]) (y := 177) (is := List.drop 64 mC177) (L := [.ref p0, .int v1, w2, .int v3, .int v4]) (rest := []) (μ := μ) rfl (by decide) (by decide) ⟨rfl, rfl⟩ rfl h13 (Nat.le_of_ble_eq_true rfl) (Nat.le_of_ble_eq_true rfl) (t176 h15) ?_
  rcases mIte hr with ⟨h29, hr⟩ | ⟨h29, hr⟩
  · refine gBrT (p := q14.1 = 0) (y := 177) (is := List.drop 65 mC177) (L := [.ref p0, .int v1, w2, .int v3, .int v4]) (st := []) (μ := q14.2) (t := 170) rfl h29 ?_
    refine mGo.steps 1 (c' := (177, List.drop 100 mC177, [.ref p0, .int v1, w2, .int v3, .int v4], [.int v3], q14.2)) rfl ?_
    obtain rfl := Option.some.inj hr
    rw [show r = _ from hC]
    exact gIret rfl
  · refine gBrF (p := q14.1 = 0) (y := 177) (is := List.drop 65 mC177) (L := [.ref p0, .int v1, w2, .int v3, .int v4]) (st := []) (μ := q14.2) (t := 170) rfl h29 ?_
    refine mGo.steps 4 (c' := (177, List.drop 69 mC177, [.ref p0, .int v1, w2, .int v3, .int v4], [.int (v3 + 1), .ref p0], q14.2)) rfl ?_
    obtain ⟨h16, hr⟩ := mIf hr
    obtain ⟨q17, h18, hr⟩ := mBi hr
    refine gCall (z := 175) (n := 1) (f := 0) (kind := 1) (a := p0) (As := [.int (v3 + 1)]) (y := 177) (is := List.drop 70 mC177) (L := [.ref p0, .int v1, w2, .int v3, .int v4]) (rest := []) (μ := q14.2) rfl (by decide) (by decide) ⟨rfl, rfl⟩ rfl h16 (Nat.le_of_ble_eq_true rfl) (Nat.le_of_ble_eq_true rfl) (t175 h18) ?_
    refine gSt1 (L := [.ref p0, .int v1, w2, .int v3, .int v4]) (q := 3) (w := .int q17) (is := List.drop 71 mC177) (st := []) (μ := q14.2) rfl (Nat.le_of_ble_eq_true rfl) hw2 ?_
    refine mGo.steps 2 (c' := (177, List.drop 73 mC177, [.ref p0, .int v1, w2, .int q17, .int v4], [.ref p0, .int q17], q14.2)) rfl ?_
    refine gGet (is := List.drop 74 mC177) (v := .int (mI q14.2 p0 6)) h16 rfl ?_
    rcases mIte hr with ⟨h28, hr⟩ | ⟨h28, hr⟩
    · refine gBrT (p := q17 = (mI q14.2 p0 6)) (y := 177) (is := List.drop 75 mC177) (L := [.ref p0, .int v1, w2, .int q17, .int v4]) (st := []) (μ := q14.2) (t := 145) rfl h28 ?_
      exact t177L21_83 p0 q14.2 q17 (.ref p0) rfl (.int v1) rfl w2 hw2 (.int v4) rfl hr hC
    · refine gBrF (p := q17 = (mI q14.2 p0 6)) (y := 177) (is := List.drop 75 mC177) (L := [.ref p0, .int v1, w2, .int q17, .int v4]) (st := []) (μ := q14.2) (t := 145) rfl h28 ?_
      refine mGo.steps 1 (c' := (177, List.drop 76 mC177, [.ref p0, .int v1, w2, .int q17, .int v4], [.ref p0], q14.2)) rfl ?_
      refine gGet (is := List.drop 77 mC177) (v := .ref (mP q14.2 p0 5)) h16 rfl ?_
      refine mGo.steps 1 (c' := (177, List.drop 78 mC177, [.ref p0, .int v1, w2, .int q17, .int v4], [.int q17, .ref (mP q14.2 p0 5)], q14.2)) rfl ?_
      obtain ⟨h19, hr⟩ := mIf hr
      refine gIald (is := List.drop 79 mC177) h19 ?_
      refine mGo.steps 2 (c' := (177, List.drop 81 mC177, [.ref p0, .int v1, w2, .int q17, .int v4], [.int 51, .int 49, .int (mI q14.2 (mP q14.2 p0 5) (Int32.toNatClampNeg q17))], q14.2)) rfl ?_
      obtain ⟨q20, h21, hr⟩ := mBi hr
      refine mGo.call (z := 144) (as := [.int (mI q14.2 (mP q14.2 p0 5) (Int32.toNatClampNeg q17)), .int 49, .int 51]) (y := 177) (is := List.drop 82 mC177) (L := [.ref p0, .int v1, w2, .int q17, .int v4]) (st := []) (μ := q14.2) rfl (t144 h21) ?_
      rcases mIte hr with ⟨h27, hr⟩ | ⟨h27, hr⟩
      · refine gBrT (p := ¬ q20 = 0) (y := 177) (is := List.drop 83 mC177) (L := [.ref p0, .int v1, w2, .int q17, .int v4]) (st := []) (μ := q14.2) (t := 147) rfl h27 ?_
        refine mGo.steps 1 (c' := (177, List.drop 86 mC177, [.ref p0, .int v1, w2, .int q17, .int v4], [.ref p0], q14.2)) rfl ?_
        refine gGet (is := List.drop 87 mC177) (v := .ref (mP q14.2 p0 8)) h16 rfl ?_
        refine mGo.steps 1 (c' := (177, List.drop 88 mC177, [.ref p0, .int v1, w2, .int q17, .int v4], [.ref p0, .ref (mP q14.2 p0 8)], q14.2)) rfl ?_
        refine gGet (is := List.drop 89 mC177) (v := .int (mI q14.2 p0 11)) h16 rfl ?_
        refine mGo.steps 1 (c' := (177, List.drop 90 mC177, [.ref p0, .int v1, w2, .int q17, .int v4], [.ref p0, .int (mI q14.2 p0 11), .ref (mP q14.2 p0 8)], q14.2)) rfl ?_
        refine gGet (is := List.drop 91 mC177) (v := .ref (mP q14.2 p0 5)) h16 rfl ?_
        refine mGo.steps 1 (c' := (177, List.drop 92 mC177, [.ref p0, .int v1, w2, .int q17, .int v4], [.int q17, .ref (mP q14.2 p0 5), .int (mI q14.2 p0 11), .ref (mP q14.2 p0 8)], q14.2)) rfl ?_
        refine gIald (is := List.drop 93 mC177) h19 ?_
        refine mGo.steps 2 (c' := (177, List.drop 95 mC177, [.ref p0, .int v1, w2, .int q17, .int v4], [.int ((mI q14.2 (mP q14.2 p0 5) (Int32.toNatClampNeg q17)) - 48), .int (mI q14.2 p0 11), .ref (mP q14.2 p0 8)], q14.2)) rfl ?_
        obtain ⟨h22, hr⟩ := mIf hr
        replace hr := mBs hr
        refine gIast (is := List.drop 96 mC177) h22 ?_
        let μ23 : mM := mUI q14.2 (mP q14.2 p0 8) (Int32.toNatClampNeg (mI q14.2 p0 11)) ((mI q14.2 (mP q14.2 p0 5) (Int32.toNatClampNeg q17)) - 48)
        refine mGo.steps 3 (c' := (177, List.drop 101 mC177, [.ref p0, .int v1, .int 1, .int q17, .int v4], [], μ23)) rfl ?_
        exact t177L21_101 p0 μ23 v1 1 q17 (.int v4) rfl hr hC
      · refine gBrF (p := ¬ q20 = 0) (y := 177) (is := List.drop 83 mC177) (L := [.ref p0, .int v1, w2, .int q17, .int v4]) (st := []) (μ := q14.2) (t := 147) rfl h27 ?_
        exact t177L21_83 p0 q14.2 q17 (.ref p0) rfl (.int v1) rfl w2 hw2 (.int v4) rfl hr hC
def s177L21_50 (p0 : Nat) (μ : mM) (v1 : Int32) (v3 : Int32) (v4 : Int32) : Option ((Int32 × Int32 × Int32 × mM) ⊕ ((Int32 × mM) ⊕ (Int32 × mM))) :=
  if ¬ v4 = 41 then (s177L21_59 p0 μ v1 v3 v4) else (if v1 ≤ 0 then (s177L21_59 p0 μ v1 v3 v4) else (s177L21_101 p0 μ (v1 + (-1)) 0 v3))
set_option maxRecDepth 20000 in
theorem t177L21_50 (p0 : Nat) (μ : mM) (v1 : Int32) (v3 : Int32) (v4 : Int32) (w2 : Value) (hw2 : mNotL w2 = true) {o : ((Int32 × Int32 × Int32 × mM) ⊕ ((Int32 × mM) ⊕ (Int32 × mM)))} {r : Option Value × mM} (hr : s177L21_50 p0 μ v1 v3 v4 = some o) (hC : Sum.elim (fun s' : Int32 × Int32 × Int32 × mM => ∀ (w4 : Value) (hw4 : mNotL w4 = true), mGo mG (177, List.drop 21 mC177, [.ref p0, .int s'.1, .int s'.2.1, .int s'.2.2.1, w4], [], s'.2.2.2) r) (Sum.elim (fun x : Int32 × mM => ∀ (w2 : Value) (hw2 : mNotL w2 = true) (w3 : Value) (hw3 : mNotL w3 = true) (w4 : Value) (hw4 : mNotL w4 = true), mGo mG (177, List.drop 108 mC177, [.ref p0, .int x.1, w2, w3, w4], [], x.2) r) (fun y : (Int32 × mM) => r = (some (.int y.1), y.2))) o) : mGo mG (177, List.drop 50 mC177, [.ref p0, .int v1, w2, .int v3, .int v4], [], μ) r := by
  unfold s177L21_50 at hr
  refine mGo.steps 2 (c' := (177, List.drop 52 mC177, [.ref p0, .int v1, w2, .int v3, .int v4], [.int 41, .int v4], μ)) rfl ?_
  rcases mIte hr with ⟨h31, hr⟩ | ⟨h31, hr⟩
  · refine gBrT (p := ¬ v4 = 41) (y := 177) (is := List.drop 53 mC177) (L := [.ref p0, .int v1, w2, .int v3, .int v4]) (st := []) (μ := μ) (t := 100) rfl h31 ?_
    exact t177L21_59 p0 μ v1 v3 v4 w2 hw2 hr hC
  · refine gBrF (p := ¬ v4 = 41) (y := 177) (is := List.drop 53 mC177) (L := [.ref p0, .int v1, w2, .int v3, .int v4]) (st := []) (μ := μ) (t := 100) rfl h31 ?_
    refine mGo.steps 1 (c' := (177, List.drop 54 mC177, [.ref p0, .int v1, w2, .int v3, .int v4], [.int v1], μ)) rfl ?_
    rcases mIte hr with ⟨h30, hr⟩ | ⟨h30, hr⟩
    · refine gBrT (p := v1 ≤ 0) (y := 177) (is := List.drop 55 mC177) (L := [.ref p0, .int v1, w2, .int v3, .int v4]) (st := []) (μ := μ) (t := 100) rfl h30 ?_
      exact t177L21_59 p0 μ v1 v3 v4 w2 hw2 hr hC
    · refine gBrF (p := v1 ≤ 0) (y := 177) (is := List.drop 55 mC177) (L := [.ref p0, .int v1, w2, .int v3, .int v4]) (st := []) (μ := μ) (t := 100) rfl h30 ?_
      refine mGo.steps 4 (c' := (177, List.drop 101 mC177, [.ref p0, .int (v1 + (-1)), .int 0, .int v3, .int v4], [], μ)) rfl ?_
      exact t177L21_101 p0 μ (v1 + (-1)) 0 v3 (.int v4) rfl hr hC
def s177L21 (p0 : Nat) (s : Int32 × Int32 × Int32 × mM) : Option ((Int32 × Int32 × Int32 × mM) ⊕ ((Int32 × mM) ⊕ (Int32 × mM))) :=
  if (mS s.2.2.2 p0).1 = 9 then if (mI s.2.2.2 p0 6) ≤ s.2.2.1 then (some (.inr (.inl (s.1, s.2.2.2)))) else (if (mS s.2.2.2 (mP s.2.2.2 p0 5)).1 = 10 ∧ mInb s.2.2.1 (mS s.2.2.2 (mP s.2.2.2 p0 5)).2 then if ¬ (mI s.2.2.2 (mP s.2.2.2 p0 5) (Int32.toNatClampNeg s.2.2.1)) = 40 then (s177L21_50 p0 s.2.2.2 s.1 s.2.2.1 (mI s.2.2.2 (mP s.2.2.2 p0 5) (Int32.toNatClampNeg s.2.2.1))) else (if s.2.1 = 0 then (s177L21_50 p0 s.2.2.2 s.1 s.2.2.1 (mI s.2.2.2 (mP s.2.2.2 p0 5) (Int32.toNatClampNeg s.2.2.1))) else (if (mS s.2.2.2 (mP s.2.2.2 p0 12)).1 = 10 ∧ mInb (s.1 + 1) (mS s.2.2.2 (mP s.2.2.2 p0 12)).2 then (some (mUI s.2.2.2 (mP s.2.2.2 p0 12) (Int32.toNatClampNeg (s.1 + 1)) (mI s.2.2.2 p0 11))).bind fun μ33 => if (mS μ33 (mP μ33 p0 13)).1 = 10 ∧ mInb (s.1 + 1) (mS μ33 (mP μ33 p0 13)).2 then (some (mUI μ33 (mP μ33 p0 13) (Int32.toNatClampNeg (s.1 + 1)) 0)).bind fun μ35 => s177L21_101 p0 μ35 (s.1 + 1) 0 s.2.2.1 else none else none)) else none) else none
set_option maxRecDepth 20000 in
theorem t177L21 (p0 : Nat) {r : Option Value × mM} (s : Int32 × Int32 × Int32 × mM) (o : ((Int32 × Int32 × Int32 × mM) ⊕ ((Int32 × mM) ⊕ (Int32 × mM)))) (hr : s177L21 p0 s = some o) (hC : Sum.elim (fun s' : Int32 × Int32 × Int32 × mM => ∀ (w4 : Value) (hw4 : mNotL w4 = true), mGo mG (177, List.drop 21 mC177, [.ref p0, .int s'.1, .int s'.2.1, .int s'.2.2.1, w4], [], s'.2.2.2) r) (Sum.elim (fun x : Int32 × mM => ∀ (w2 : Value) (hw2 : mNotL w2 = true) (w3 : Value) (hw3 : mNotL w3 = true) (w4 : Value) (hw4 : mNotL w4 = true), mGo mG (177, List.drop 108 mC177, [.ref p0, .int x.1, w2, w3, w4], [], x.2) r) (fun y : (Int32 × mM) => r = (some (.int y.1), y.2))) o) : ∀ (w4 : Value) (hw4 : mNotL w4 = true), mGo mG (177, List.drop 21 mC177, [.ref p0, .int s.1, .int s.2.1, .int s.2.2.1, w4], [], s.2.2.2) r := by
  intro w4 hw4
  unfold s177L21 at hr
  refine mGo.steps 2 (c' := (177, List.drop 23 mC177, [.ref p0, .int s.1, .int s.2.1, .int s.2.2.1, w4], [.ref p0, .int s.2.2.1], s.2.2.2)) rfl ?_
  obtain ⟨h9, hr⟩ := mIf hr
  refine gGet (is := List.drop 24 mC177) (v := .int (mI s.2.2.2 p0 6)) h9 rfl ?_
  rcases mIte hr with ⟨h38, hr⟩ | ⟨h38, hr⟩
  · refine gBrT (p := (mI s.2.2.2 p0 6) ≤ s.2.2.1) (y := 177) (is := List.drop 25 mC177) (L := [.ref p0, .int s.1, .int s.2.1, .int s.2.2.1, w4]) (st := []) (μ := s.2.2.2) (t := 183) rfl h38 ?_
    obtain rfl := Option.some.inj hr
    exact hC (.int s.2.1) rfl (.int s.2.2.1) rfl w4 hw4
  · refine gBrF (p := (mI s.2.2.2 p0 6) ≤ s.2.2.1) (y := 177) (is := List.drop 25 mC177) (L := [.ref p0, .int s.1, .int s.2.1, .int s.2.2.1, w4]) (st := []) (μ := s.2.2.2) (t := 183) rfl h38 ?_
    refine mGo.steps 1 (c' := (177, List.drop 26 mC177, [.ref p0, .int s.1, .int s.2.1, .int s.2.2.1, w4], [.ref p0], s.2.2.2)) rfl ?_
    refine gGet (is := List.drop 27 mC177) (v := .ref (mP s.2.2.2 p0 5)) h9 rfl ?_
    refine mGo.steps 1 (c' := (177, List.drop 28 mC177, [.ref p0, .int s.1, .int s.2.1, .int s.2.2.1, w4], [.int s.2.2.1, .ref (mP s.2.2.2 p0 5)], s.2.2.2)) rfl ?_
    obtain ⟨h10, hr⟩ := mIf hr
    refine gIald (is := List.drop 29 mC177) h10 ?_
    refine mGo.steps 3 (c' := (177, List.drop 32 mC177, [.ref p0, .int s.1, .int s.2.1, .int s.2.2.1, .int (mI s.2.2.2 (mP s.2.2.2 p0 5) (Int32.toNatClampNeg s.2.2.1))], [.int 40, .int (mI s.2.2.2 (mP s.2.2.2 p0 5) (Int32.toNatClampNeg s.2.2.1))], s.2.2.2)) rfl ?_
    rcases mIte hr with ⟨h37, hr⟩ | ⟨h37, hr⟩
    · refine gBrT (p := ¬ (mI s.2.2.2 (mP s.2.2.2 p0 5) (Int32.toNatClampNeg s.2.2.1)) = 40) (y := 177) (is := List.drop 33 mC177) (L := [.ref p0, .int s.1, .int s.2.1, .int s.2.2.1, .int (mI s.2.2.2 (mP s.2.2.2 p0 5) (Int32.toNatClampNeg s.2.2.1))]) (st := []) (μ := s.2.2.2) (t := 81) rfl h37 ?_
      exact t177L21_50 p0 s.2.2.2 s.1 s.2.2.1 (mI s.2.2.2 (mP s.2.2.2 p0 5) (Int32.toNatClampNeg s.2.2.1)) (.int s.2.1) rfl hr hC
    · refine gBrF (p := ¬ (mI s.2.2.2 (mP s.2.2.2 p0 5) (Int32.toNatClampNeg s.2.2.1)) = 40) (y := 177) (is := List.drop 33 mC177) (L := [.ref p0, .int s.1, .int s.2.1, .int s.2.2.1, .int (mI s.2.2.2 (mP s.2.2.2 p0 5) (Int32.toNatClampNeg s.2.2.1))]) (st := []) (μ := s.2.2.2) (t := 81) rfl h37 ?_
      refine mGo.steps 1 (c' := (177, List.drop 34 mC177, [.ref p0, .int s.1, .int s.2.1, .int s.2.2.1, .int (mI s.2.2.2 (mP s.2.2.2 p0 5) (Int32.toNatClampNeg s.2.2.1))], [.int s.2.1], s.2.2.2)) rfl ?_
      rcases mIte hr with ⟨h36, hr⟩ | ⟨h36, hr⟩
      · refine gBrT (p := s.2.1 = 0) (y := 177) (is := List.drop 35 mC177) (L := [.ref p0, .int s.1, .int s.2.1, .int s.2.2.1, .int (mI s.2.2.2 (mP s.2.2.2 p0 5) (Int32.toNatClampNeg s.2.2.1))]) (st := []) (μ := s.2.2.2) (t := 81) rfl h36 ?_
        exact t177L21_50 p0 s.2.2.2 s.1 s.2.2.1 (mI s.2.2.2 (mP s.2.2.2 p0 5) (Int32.toNatClampNeg s.2.2.1)) (.int s.2.1) rfl hr hC
      · refine gBrF (p := s.2.1 = 0) (y := 177) (is := List.drop 35 mC177) (L := [.ref p0, .int s.1, .int s.2.1, .int s.2.2.1, .int (mI s.2.2.2 (mP s.2.2.2 p0 5) (Int32.toNatClampNeg s.2.2.1))]) (st := []) (μ := s.2.2.2) (t := 81) rfl h36 ?_
        refine mGo.steps 2 (c' := (177, List.drop 37 mC177, [.ref p0, .int (s.1 + 1), .int s.2.1, .int s.2.2.1, .int (mI s.2.2.2 (mP s.2.2.2 p0 5) (Int32.toNatClampNeg s.2.2.1))], [.ref p0], s.2.2.2)) rfl ?_
        refine gGet (is := List.drop 38 mC177) (v := .ref (mP s.2.2.2 p0 12)) h9 rfl ?_
        refine mGo.steps 2 (c' := (177, List.drop 40 mC177, [.ref p0, .int (s.1 + 1), .int s.2.1, .int s.2.2.1, .int (mI s.2.2.2 (mP s.2.2.2 p0 5) (Int32.toNatClampNeg s.2.2.1))], [.ref p0, .int (s.1 + 1), .ref (mP s.2.2.2 p0 12)], s.2.2.2)) rfl ?_
        refine gGet (is := List.drop 41 mC177) (v := .int (mI s.2.2.2 p0 11)) h9 rfl ?_
        obtain ⟨h32, hr⟩ := mIf hr
        replace hr := mBs hr
        refine gIast (is := List.drop 42 mC177) h32 ?_
        let μ33 : mM := mUI s.2.2.2 (mP s.2.2.2 p0 12) (Int32.toNatClampNeg (s.1 + 1)) (mI s.2.2.2 p0 11)
        refine mGo.steps 1 (c' := (177, List.drop 43 mC177, [.ref p0, .int (s.1 + 1), .int s.2.1, .int s.2.2.1, .int (mI s.2.2.2 (mP s.2.2.2 p0 5) (Int32.toNatClampNeg s.2.2.1))], [.ref p0], μ33)) rfl ?_
        refine gGet (is := List.drop 44 mC177) (v := .ref (mP μ33 p0 13)) h9 rfl ?_
        refine mGo.steps 2 (c' := (177, List.drop 46 mC177, [.ref p0, .int (s.1 + 1), .int s.2.1, .int s.2.2.1, .int (mI s.2.2.2 (mP s.2.2.2 p0 5) (Int32.toNatClampNeg s.2.2.1))], [.int 0, .int (s.1 + 1), .ref (mP μ33 p0 13)], μ33)) rfl ?_
        obtain ⟨h34, hr⟩ := mIf hr
        replace hr := mBs hr
        refine gIast (is := List.drop 47 mC177) h34 ?_
        let μ35 : mM := mUI μ33 (mP μ33 p0 13) (Int32.toNatClampNeg (s.1 + 1)) 0
        refine mGo.steps 3 (c' := (177, List.drop 101 mC177, [.ref p0, .int (s.1 + 1), .int 0, .int s.2.2.1, .int (mI s.2.2.2 (mP s.2.2.2 p0 5) (Int32.toNatClampNeg s.2.2.1))], [], μ35)) rfl ?_
        exact t177L21_101 p0 μ35 (s.1 + 1) 0 s.2.2.1 (.int (mI s.2.2.2 (mP s.2.2.2 p0 5) (Int32.toNatClampNeg s.2.2.1))) rfl hr hC
theorem t177L21l (p0 : Nat) {r : Option Value × mM} (n : Nat) (s : Int32 × Int32 × Int32 × mM) (o : (Int32 × mM) ⊕ (Int32 × mM)) (hr : mLoop (s177L21 p0) n s = some o) (hC : Sum.elim (fun x : Int32 × mM => ∀ (w2 : Value) (hw2 : mNotL w2 = true) (w3 : Value) (hw3 : mNotL w3 = true) (w4 : Value) (hw4 : mNotL w4 = true), mGo mG (177, List.drop 108 mC177, [.ref p0, .int x.1, w2, w3, w4], [], x.2) r) (fun y : (Int32 × mM) => r = (some (.int y.1), y.2)) o) : ∀ (w4 : Value) (hw4 : mNotL w4 = true), mGo mG (177, List.drop 21 mC177, [.ref p0, .int s.1, .int s.2.1, .int s.2.2.1, w4], [], s.2.2.2) r :=
  mLoop_go (Hd := (fun s' : Int32 × Int32 × Int32 × mM => ∀ (w4 : Value) (hw4 : mNotL w4 = true), mGo mG (177, List.drop 21 mC177, [.ref p0, .int s'.1, .int s'.2.1, .int s'.2.2.1, w4], [], s'.2.2.2) r)) (fun s o hb hC => t177L21 p0 s o hb hC) n s o hr hC
def s177_114 (a0 : Nat) (μ : mM) (t0 : Int32) : Option (Int32 × mM) :=
  some (t0, μ)
set_option maxRecDepth 20000 in
theorem t177_114 (a0 : Nat) (μ : mM) (t0 : Int32) (w0 : Value) (hw0 : mNotL w0 = true) (w1 : Value) (hw1 : mNotL w1 = true) (w2 : Value) (hw2 : mNotL w2 = true) (w3 : Value) (hw3 : mNotL w3 = true) (w4 : Value) (hw4 : mNotL w4 = true) {o : (Int32 × mM)} {r : Option Value × mM} (hr : s177_114 a0 μ t0 = some o) (hC : r = (some (.int o.1), o.2)) : mGo mG (177, List.drop 114 mC177, [w0, w1, w2, w3, w4], [.int t0], μ) r := by
  unfold s177_114 at hr
  obtain rfl := Option.some.inj hr
  rw [show r = _ from hC]
  exact gIret rfl
def s177 (μ : mM) (a0 : Nat) : Option (Int32 × mM) :=
  if (mS μ a0).1 = 9 then (some (mUI μ a0 11 0)).bind fun μ2 => if (mS μ2 (mP μ2 a0 12)).1 = 10 ∧ mInb 0 (mS μ2 (mP μ2 a0 12)).2 then (some (mUI μ2 (mP μ2 a0 12) (Int32.toNatClampNeg 0) 0)).bind fun μ4 => if (mS μ4 (mP μ4 a0 13)).1 = 10 ∧ mInb 0 (mS μ4 (mP μ4 a0 13)).2 then (some (mUI μ4 (mP μ4 a0 13) (Int32.toNatClampNeg 0) 0)).bind fun μ6 => (s175 μ6 a0 0).bind fun q7 => (mLoop (s177L21 a0) 1000 (0, 0, q7, μ6)).bind fun o39 => Sum.elim (fun x40 => if x40.1 ≤ 0 then (s177_114 a0 x40.2 (-10)) else (if (mS x40.2 a0).1 = 9 then s177_114 a0 x40.2 (mI x40.2 a0 6) else none)) (fun y41 => some y41) o39 else none else none else none
set_option maxRecDepth 20000 in
theorem t177 {μ : mM} {a0 : Nat} {o : (Int32 × mM)} (hr : s177 μ a0 = some o) : mEv mG 177 [.ref a0] μ (some (.int o.1)) (o.2) := by
  obtain ⟨r, hC⟩ : ∃ r : Option Value × mM, r = (some (.int o.1), o.2) := ⟨_, rfl⟩
  show mGo mG (177, List.drop 0 mC177, [.ref a0, .retAddr 0, .retAddr 0, .retAddr 0, .retAddr 0], [], μ) (some (.int o.1), o.2)
  rw [← hC]
  unfold s177 at hr
  refine mGo.steps 2 (c' := (177, List.drop 2 mC177, [.ref a0, .retAddr 0, .retAddr 0, .retAddr 0, .retAddr 0], [.int 0, .ref a0], μ)) rfl ?_
  obtain ⟨h1, hr⟩ := mIf hr
  replace hr := mBs hr
  refine gPut (is := List.drop 3 mC177) (μ' := mUI μ a0 11 0) h1 rfl ?_
  let μ2 : mM := mUI μ a0 11 0
  refine mGo.steps 1 (c' := (177, List.drop 4 mC177, [.ref a0, .retAddr 0, .retAddr 0, .retAddr 0, .retAddr 0], [.ref a0], μ2)) rfl ?_
  refine gGet (is := List.drop 5 mC177) (v := .ref (mP μ2 a0 12)) h1 rfl ?_
  refine mGo.steps 2 (c' := (177, List.drop 7 mC177, [.ref a0, .retAddr 0, .retAddr 0, .retAddr 0, .retAddr 0], [.int 0, .int 0, .ref (mP μ2 a0 12)], μ2)) rfl ?_
  obtain ⟨h3, hr⟩ := mIf hr
  replace hr := mBs hr
  refine gIast (is := List.drop 8 mC177) h3 ?_
  let μ4 : mM := mUI μ2 (mP μ2 a0 12) (Int32.toNatClampNeg 0) 0
  refine mGo.steps 1 (c' := (177, List.drop 9 mC177, [.ref a0, .retAddr 0, .retAddr 0, .retAddr 0, .retAddr 0], [.ref a0], μ4)) rfl ?_
  refine gGet (is := List.drop 10 mC177) (v := .ref (mP μ4 a0 13)) h1 rfl ?_
  refine mGo.steps 2 (c' := (177, List.drop 12 mC177, [.ref a0, .retAddr 0, .retAddr 0, .retAddr 0, .retAddr 0], [.int 0, .int 0, .ref (mP μ4 a0 13)], μ4)) rfl ?_
  obtain ⟨h5, hr⟩ := mIf hr
  replace hr := mBs hr
  refine gIast (is := List.drop 13 mC177) h5 ?_
  let μ6 : mM := mUI μ4 (mP μ4 a0 13) (Int32.toNatClampNeg 0) 0
  refine mGo.steps 6 (c' := (177, List.drop 19 mC177, [.ref a0, .int 0, .int 0, .retAddr 0, .retAddr 0], [.int 0, .ref a0], μ6)) rfl ?_
  obtain ⟨q7, h8, hr⟩ := mBi hr
  refine gCall (z := 175) (n := 1) (f := 0) (kind := 1) (a := a0) (As := [.int 0]) (y := 177) (is := List.drop 20 mC177) (L := [.ref a0, .int 0, .int 0, .retAddr 0, .retAddr 0]) (rest := []) (μ := μ6) rfl (by decide) (by decide) ⟨rfl, rfl⟩ rfl h1 (Nat.le_of_ble_eq_true rfl) (Nat.le_of_ble_eq_true rfl) (t175 h8) ?_
  refine mGo.steps 1 (c' := (177, List.drop 21 mC177, [.ref a0, .int 0, .int 0, .int q7, .retAddr 0], [], μ6)) rfl ?_
  obtain ⟨o39, h42, hr⟩ := mBi hr
  refine t177L21l a0 1000 (0, 0, q7, μ6) o39 h42 ?_ (.retAddr 0) rfl
  cases o39 with
  | inl x40 =>
    show ∀ (w2 : Value) (hw2 : mNotL w2 = true) (w3 : Value) (hw3 : mNotL w3 = true) (w4 : Value) (hw4 : mNotL w4 = true), mGo mG (177, List.drop 108 mC177, [.ref a0, .int x40.1, w2, w3, w4], [], x40.2) r
    intro w2 hw2 w3 hw3 w4 hw4
    replace hr : (_) = some _ := hr
    refine mGo.steps 1 (c' := (177, List.drop 109 mC177, [.ref a0, .int x40.1, w2, w3, w4], [.int x40.1], x40.2)) rfl ?_
    rcases mIte hr with ⟨h44, hr⟩ | ⟨h44, hr⟩
    · refine gBrT (p := x40.1 ≤ 0) (y := 177) (is := List.drop 110 mC177) (L := [.ref a0, .int x40.1, w2, w3, w4]) (st := []) (μ := x40.2) (t := 194) rfl h44 ?_
      refine mGo.steps 1 (c' := (177, List.drop 114 mC177, [.ref a0, .int x40.1, w2, w3, w4], [.int (-10)], x40.2)) rfl ?_
      exact t177_114 a0 x40.2 (-10) (.ref a0) rfl (.int x40.1) rfl w2 hw2 w3 hw3 w4 hw4 hr hC
    · refine gBrF (p := x40.1 ≤ 0) (y := 177) (is := List.drop 110 mC177) (L := [.ref a0, .int x40.1, w2, w3, w4]) (st := []) (μ := x40.2) (t := 194) rfl h44 ?_
      refine mGo.steps 1 (c' := (177, List.drop 111 mC177, [.ref a0, .int x40.1, w2, w3, w4], [.ref a0], x40.2)) rfl ?_
      obtain ⟨h43, hr⟩ := mIf hr
      refine gGet (is := List.drop 112 mC177) (v := .int (mI x40.2 a0 6)) h43 rfl ?_
      refine mGo.steps 1 (c' := (177, List.drop 114 mC177, [.ref a0, .int x40.1, w2, w3, w4], [.int (mI x40.2 a0 6)], x40.2)) rfl ?_
      exact t177_114 a0 x40.2 (mI x40.2 a0 6) (.ref a0) rfl (.int x40.1) rfl w2 hw2 w3 hw3 w4 hw4 hr hC
  | inr y41 =>
    obtain rfl := Option.some.inj hr
    exact hC

/-! 178: TunnelFabricModel.type(I)I -/
def s178 (μ : mM) (a0 : Nat) (a1 : Int32) : Option (Int32 × mM) :=
  (s144 μ a1 0 127).bind fun q1 => if ¬ q1 = 0 then (if (mS μ a0).1 = 9 then if ¬ (mI μ a0 6) = 60 then (if (mS μ (mP μ a0 5)).1 = 10 ∧ mInb (mI μ a0 6) (mS μ (mP μ a0 5)).2 then (some (mUI μ (mP μ a0 5) (Int32.toNatClampNeg (mI μ a0 6)) a1)).bind fun μ5 => (some (mUI μ5 a0 6 ((mI μ5 a0 6) + 1))).bind fun μ6 => some (mI μ6 a0 6, μ6) else none) else (some ((-5), μ)) else none) else (some ((-1), μ))
set_option maxRecDepth 20000 in
theorem t178 {μ : mM} {a0 : Nat} {a1 : Int32} {o : (Int32 × mM)} (hr : s178 μ a0 a1 = some o) : mEv mG 178 [.ref a0, .int a1] μ (some (.int o.1)) (o.2) := by
  obtain ⟨r, hC⟩ : ∃ r : Option Value × mM, r = (some (.int o.1), o.2) := ⟨_, rfl⟩
  show mGo mG (178, List.drop 0 mC178, [.ref a0, .int a1], [], μ) (some (.int o.1), o.2)
  rw [← hC]
  unfold s178 at hr
  refine mGo.steps 3 (c' := (178, List.drop 3 mC178, [.ref a0, .int a1], [.int 127, .int 0, .int a1], μ)) rfl ?_
  obtain ⟨q1, h2, hr⟩ := mBi hr
  refine mGo.call (z := 144) (as := [.int a1, .int 0, .int 127]) (y := 178) (is := List.drop 4 mC178) (L := [.ref a0, .int a1]) (st := []) (μ := μ) rfl (t144 h2) ?_
  rcases mIte hr with ⟨h8, hr⟩ | ⟨h8, hr⟩
  · refine gBrT (p := ¬ q1 = 0) (y := 178) (is := List.drop 5 mC178) (L := [.ref a0, .int a1]) (st := []) (μ := μ) (t := 12) rfl h8 ?_
    refine mGo.steps 1 (c' := (178, List.drop 8 mC178, [.ref a0, .int a1], [.ref a0], μ)) rfl ?_
    obtain ⟨h3, hr⟩ := mIf hr
    refine gGet (is := List.drop 9 mC178) (v := .int (mI μ a0 6)) h3 rfl ?_
    refine mGo.steps 1 (c' := (178, List.drop 10 mC178, [.ref a0, .int a1], [.int 60, .int (mI μ a0 6)], μ)) rfl ?_
    rcases mIte hr with ⟨h7, hr⟩ | ⟨h7, hr⟩
    · refine gBrT (p := ¬ (mI μ a0 6) = 60) (y := 178) (is := List.drop 11 mC178) (L := [.ref a0, .int a1]) (st := []) (μ := μ) (t := 24) rfl h7 ?_
      refine mGo.steps 1 (c' := (178, List.drop 14 mC178, [.ref a0, .int a1], [.ref a0], μ)) rfl ?_
      refine gGet (is := List.drop 15 mC178) (v := .ref (mP μ a0 5)) h3 rfl ?_
      refine mGo.steps 1 (c' := (178, List.drop 16 mC178, [.ref a0, .int a1], [.ref a0, .ref (mP μ a0 5)], μ)) rfl ?_
      refine gGet (is := List.drop 17 mC178) (v := .int (mI μ a0 6)) h3 rfl ?_
      refine mGo.steps 1 (c' := (178, List.drop 18 mC178, [.ref a0, .int a1], [.int a1, .int (mI μ a0 6), .ref (mP μ a0 5)], μ)) rfl ?_
      obtain ⟨h4, hr⟩ := mIf hr
      replace hr := mBs hr
      refine gIast (is := List.drop 19 mC178) h4 ?_
      let μ5 : mM := mUI μ (mP μ a0 5) (Int32.toNatClampNeg (mI μ a0 6)) a1
      refine mGo.steps 2 (c' := (178, List.drop 21 mC178, [.ref a0, .int a1], [.ref a0, .ref a0], μ5)) rfl ?_
      refine gGet (is := List.drop 22 mC178) (v := .int (mI μ5 a0 6)) h3 rfl ?_
      refine mGo.steps 2 (c' := (178, List.drop 24 mC178, [.ref a0, .int a1], [.int ((mI μ5 a0 6) + 1), .ref a0], μ5)) rfl ?_
      replace hr := mBs hr
      refine gPut (is := List.drop 25 mC178) (μ' := mUI μ5 a0 6 ((mI μ5 a0 6) + 1)) h3 rfl ?_
      let μ6 : mM := mUI μ5 a0 6 ((mI μ5 a0 6) + 1)
      refine mGo.steps 1 (c' := (178, List.drop 26 mC178, [.ref a0, .int a1], [.ref a0], μ6)) rfl ?_
      refine gGet (is := List.drop 27 mC178) (v := .int (mI μ6 a0 6)) h3 rfl ?_
      obtain rfl := Option.some.inj hr
      rw [show r = _ from hC]
      exact gIret rfl
    · refine gBrF (p := ¬ (mI μ a0 6) = 60) (y := 178) (is := List.drop 11 mC178) (L := [.ref a0, .int a1]) (st := []) (μ := μ) (t := 24) rfl h7 ?_
      refine mGo.steps 1 (c' := (178, List.drop 12 mC178, [.ref a0, .int a1], [.int (-5)], μ)) rfl ?_
      obtain rfl := Option.some.inj hr
      rw [show r = _ from hC]
      exact gIret rfl
  · refine gBrF (p := ¬ q1 = 0) (y := 178) (is := List.drop 5 mC178) (L := [.ref a0, .int a1]) (st := []) (μ := μ) (t := 12) rfl h8 ?_
    refine mGo.steps 1 (c' := (178, List.drop 6 mC178, [.ref a0, .int a1], [.int (-1)], μ)) rfl ?_
    obtain rfl := Option.some.inj hr
    rw [show r = _ from hC]
    exact gIret rfl

/-! 179: TunnelFabricModel.clearText()I -/
def s179 (μ : mM) (a0 : Nat) : Option (Int32 × mM) :=
  if (mS μ a0).1 = 9 then (some (mUI μ a0 6 0)).bind fun μ2 => some (mI μ a0 6, μ2) else none
set_option maxRecDepth 20000 in
theorem t179 {μ : mM} {a0 : Nat} {o : (Int32 × mM)} (hr : s179 μ a0 = some o) : mEv mG 179 [.ref a0] μ (some (.int o.1)) (o.2) := by
  obtain ⟨r, hC⟩ : ∃ r : Option Value × mM, r = (some (.int o.1), o.2) := ⟨_, rfl⟩
  show mGo mG (179, List.drop 0 mC179, [.ref a0, .retAddr 0], [], μ) (some (.int o.1), o.2)
  rw [← hC]
  unfold s179 at hr
  refine mGo.steps 1 (c' := (179, List.drop 1 mC179, [.ref a0, .retAddr 0], [.ref a0], μ)) rfl ?_
  obtain ⟨h1, hr⟩ := mIf hr
  refine gGet (is := List.drop 2 mC179) (v := .int (mI μ a0 6)) h1 rfl ?_
  refine mGo.steps 3 (c' := (179, List.drop 5 mC179, [.ref a0, .int (mI μ a0 6)], [.int 0, .ref a0], μ)) rfl ?_
  replace hr := mBs hr
  refine gPut (is := List.drop 6 mC179) (μ' := mUI μ a0 6 0) h1 rfl ?_
  let μ2 : mM := mUI μ a0 6 0
  refine mGo.steps 1 (c' := (179, List.drop 7 mC179, [.ref a0, .int (mI μ a0 6)], [.int (mI μ a0 6)], μ2)) rfl ?_
  obtain rfl := Option.some.inj hr
  rw [show r = _ from hC]
  exact gIret rfl

/-! 180: TunnelFabricModel.adds(IIIII)V -/
def s180L27 (p0 : Nat) (p1 : Int32) (s : Int32 × mM) : Option ((Int32 × mM) ⊕ ((mM) ⊕ mM)) :=
  if 9 ≤ s.1 then (some (.inr (.inl s.2))) else (if (mS s.2 p0).1 = 9 then (s149 s.2 p0 p1 s.1 0).bind fun q17 => some (.inl (s.1 + 1, q17)) else none)
set_option maxRecDepth 20000 in
theorem t180L27 (p0 : Nat) (p1 : Int32) {r : Option Value × mM} (s : Int32 × mM) (o : ((Int32 × mM) ⊕ ((mM) ⊕ mM))) (hr : s180L27 p0 p1 s = some o) (hC : Sum.elim (fun s' : Int32 × mM => ∀ (w2 : Value) (hw2 : mNotL w2 = true) (w3 : Value) (hw3 : mNotL w3 = true) (w4 : Value) (hw4 : mNotL w4 = true) (w5 : Value) (hw5 : mNotL w5 = true), mGo mG (180, List.drop 27 mC180, [.ref p0, .int p1, w2, w3, w4, w5, .int s'.1], [], s'.2) r) (Sum.elim (fun x : mM => ∀ (w2 : Value) (hw2 : mNotL w2 = true) (w3 : Value) (hw3 : mNotL w3 = true) (w4 : Value) (hw4 : mNotL w4 = true) (w5 : Value) (hw5 : mNotL w5 = true) (w6 : Value) (hw6 : mNotL w6 = true), mGo mG (180, List.drop 37 mC180, [.ref p0, .int p1, w2, w3, w4, w5, w6], [], x) r) (fun y : mM => r = (none, y))) o) : ∀ (w2 : Value) (hw2 : mNotL w2 = true) (w3 : Value) (hw3 : mNotL w3 = true) (w4 : Value) (hw4 : mNotL w4 = true) (w5 : Value) (hw5 : mNotL w5 = true), mGo mG (180, List.drop 27 mC180, [.ref p0, .int p1, w2, w3, w4, w5, .int s.1], [], s.2) r := by
  intro w2 hw2 w3 hw3 w4 hw4 w5 hw5
  unfold s180L27 at hr
  refine mGo.steps 2 (c' := (180, List.drop 29 mC180, [.ref p0, .int p1, w2, w3, w4, w5, .int s.1], [.int 9, .int s.1], s.2)) rfl ?_
  rcases mIte hr with ⟨h19, hr⟩ | ⟨h19, hr⟩
  · refine gBrT (p := 9 ≤ s.1) (y := 180) (is := List.drop 30 mC180) (L := [.ref p0, .int p1, w2, w3, w4, w5, .int s.1]) (st := []) (μ := s.2) (t := 61) rfl h19 ?_
    obtain rfl := Option.some.inj hr
    exact hC w2 hw2 w3 hw3 w4 hw4 w5 hw5 (.int s.1) rfl
  · refine gBrF (p := 9 ≤ s.1) (y := 180) (is := List.drop 30 mC180) (L := [.ref p0, .int p1, w2, w3, w4, w5, .int s.1]) (st := []) (μ := s.2) (t := 61) rfl h19 ?_
    refine mGo.steps 4 (c' := (180, List.drop 34 mC180, [.ref p0, .int p1, w2, w3, w4, w5, .int s.1], [.int 0, .int s.1, .int p1, .ref p0], s.2)) rfl ?_
    obtain ⟨h16, hr⟩ := mIf hr
    obtain ⟨q17, h18, hr⟩ := mBi hr
    refine gCall (z := 149) (n := 3) (f := 0) (kind := 1) (a := p0) (As := [.int p1, .int s.1, .int 0]) (y := 180) (is := List.drop 35 mC180) (L := [.ref p0, .int p1, w2, w3, w4, w5, .int s.1]) (rest := []) (μ := s.2) rfl (by decide) (by decide) ⟨rfl, rfl⟩ rfl h16 (Nat.le_of_ble_eq_true rfl) (Nat.le_of_ble_eq_true rfl) (t149 h18) ?_
    refine gSt1 (L := [.ref p0, .int p1, w2, w3, w4, w5, .int s.1]) (q := 6) (w := .int (s.1 + 1)) (is := List.drop 36 mC180) (st := []) (μ := q17) rfl (Nat.le_of_ble_eq_true rfl) hw5 ?_
    refine mGo.steps 1 (c' := (180, List.drop 27 mC180, [.ref p0, .int p1, w2, w3, w4, w5, .int (s.1 + 1)], [], q17)) rfl ?_
    obtain rfl := Option.some.inj hr
    exact hC w2 hw2 w3 hw3 w4 hw4 w5 hw5
theorem t180L27l (p0 : Nat) (p1 : Int32) {r : Option Value × mM} (n : Nat) (s : Int32 × mM) (o : (mM) ⊕ mM) (hr : mLoop (s180L27 p0 p1) n s = some o) (hC : Sum.elim (fun x : mM => ∀ (w2 : Value) (hw2 : mNotL w2 = true) (w3 : Value) (hw3 : mNotL w3 = true) (w4 : Value) (hw4 : mNotL w4 = true) (w5 : Value) (hw5 : mNotL w5 = true) (w6 : Value) (hw6 : mNotL w6 = true), mGo mG (180, List.drop 37 mC180, [.ref p0, .int p1, w2, w3, w4, w5, w6], [], x) r) (fun y : mM => r = (none, y)) o) : ∀ (w2 : Value) (hw2 : mNotL w2 = true) (w3 : Value) (hw3 : mNotL w3 = true) (w4 : Value) (hw4 : mNotL w4 = true) (w5 : Value) (hw5 : mNotL w5 = true), mGo mG (180, List.drop 27 mC180, [.ref p0, .int p1, w2, w3, w4, w5, .int s.1], [], s.2) r :=
  mLoop_go (Hd := (fun s' : Int32 × mM => ∀ (w2 : Value) (hw2 : mNotL w2 = true) (w3 : Value) (hw3 : mNotL w3 = true) (w4 : Value) (hw4 : mNotL w4 = true) (w5 : Value) (hw5 : mNotL w5 = true), mGo mG (180, List.drop 27 mC180, [.ref p0, .int p1, w2, w3, w4, w5, .int s'.1], [], s'.2) r)) (fun s o hb hC => t180L27 p0 p1 s o hb hC) n s o hr hC
def s180L39 (p0 : Nat) (p1 : Int32) (s : Int32 × mM) : Option ((Int32 × mM) ⊕ ((mM) ⊕ mM)) :=
  if 2 ≤ s.1 then (some (.inr (.inl s.2))) else (if (mS s.2 p0).1 = 9 then if (mS s.2 (mP s.2 p0 1)).1 = 11 ∧ mInb ((2 * p1) + s.1) (mS s.2 (mP s.2 p0 1)).2 then (some (mUF s.2 (mP s.2 p0 1) (Int32.toNatClampNeg ((2 * p1) + s.1)) FP.fconst0)).bind fun μ26 => if (mS μ26 (mP μ26 p0 0)).1 = 10 ∧ mInb ((412 + (2 * p1)) + s.1) (mS μ26 (mP μ26 p0 0)).2 then (some (mUI μ26 (mP μ26 p0 0) (Int32.toNatClampNeg ((412 + (2 * p1)) + s.1)) 0)).bind fun μ28 => some (.inl (s.1 + 1, μ28)) else none else none else none)
set_option maxRecDepth 20000 in
theorem t180L39 (p0 : Nat) (p1 : Int32) {r : Option Value × mM} (s : Int32 × mM) (o : ((Int32 × mM) ⊕ ((mM) ⊕ mM))) (hr : s180L39 p0 p1 s = some o) (hC : Sum.elim (fun s' : Int32 × mM => ∀ (w2 : Value) (hw2 : mNotL w2 = true) (w3 : Value) (hw3 : mNotL w3 = true) (w4 : Value) (hw4 : mNotL w4 = true) (w5 : Value) (hw5 : mNotL w5 = true), mGo mG (180, List.drop 39 mC180, [.ref p0, .int p1, w2, w3, w4, w5, .int s'.1], [], s'.2) r) (Sum.elim (fun x : mM => ∀ (w0 : Value) (hw0 : mNotL w0 = true) (w1 : Value) (hw1 : mNotL w1 = true) (w2 : Value) (hw2 : mNotL w2 = true) (w3 : Value) (hw3 : mNotL w3 = true) (w4 : Value) (hw4 : mNotL w4 = true) (w5 : Value) (hw5 : mNotL w5 = true) (w6 : Value) (hw6 : mNotL w6 = true), mGo mG (180, List.drop 64 mC180, [w0, w1, w2, w3, w4, w5, w6], [], x) r) (fun y : mM => r = (none, y))) o) : ∀ (w2 : Value) (hw2 : mNotL w2 = true) (w3 : Value) (hw3 : mNotL w3 = true) (w4 : Value) (hw4 : mNotL w4 = true) (w5 : Value) (hw5 : mNotL w5 = true), mGo mG (180, List.drop 39 mC180, [.ref p0, .int p1, w2, w3, w4, w5, .int s.1], [], s.2) r := by
  intro w2 hw2 w3 hw3 w4 hw4 w5 hw5
  unfold s180L39 at hr
  refine mGo.steps 2 (c' := (180, List.drop 41 mC180, [.ref p0, .int p1, w2, w3, w4, w5, .int s.1], [.int 2, .int s.1], s.2)) rfl ?_
  rcases mIte hr with ⟨h29, hr⟩ | ⟨h29, hr⟩
  · refine gBrT (p := 2 ≤ s.1) (y := 180) (is := List.drop 42 mC180) (L := [.ref p0, .int p1, w2, w3, w4, w5, .int s.1]) (st := []) (μ := s.2) (t := 104) rfl h29 ?_
    obtain rfl := Option.some.inj hr
    exact hC (.ref p0) rfl (.int p1) rfl w2 hw2 w3 hw3 w4 hw4 w5 hw5 (.int s.1) rfl
  · refine gBrF (p := 2 ≤ s.1) (y := 180) (is := List.drop 42 mC180) (L := [.ref p0, .int p1, w2, w3, w4, w5, .int s.1]) (st := []) (μ := s.2) (t := 104) rfl h29 ?_
    refine mGo.steps 1 (c' := (180, List.drop 43 mC180, [.ref p0, .int p1, w2, w3, w4, w5, .int s.1], [.ref p0], s.2)) rfl ?_
    obtain ⟨h24, hr⟩ := mIf hr
    refine gGet (is := List.drop 44 mC180) (v := .ref (mP s.2 p0 1)) h24 rfl ?_
    refine mGo.steps 6 (c' := (180, List.drop 50 mC180, [.ref p0, .int p1, w2, w3, w4, w5, .int s.1], [.float FP.fconst0, .int ((2 * p1) + s.1), .ref (mP s.2 p0 1)], s.2)) rfl ?_
    obtain ⟨h25, hr⟩ := mIf hr
    replace hr := mBs hr
    refine gFast (is := List.drop 51 mC180) h25 ?_
    let μ26 : mM := mUF s.2 (mP s.2 p0 1) (Int32.toNatClampNeg ((2 * p1) + s.1)) FP.fconst0
    refine mGo.steps 1 (c' := (180, List.drop 52 mC180, [.ref p0, .int p1, w2, w3, w4, w5, .int s.1], [.ref p0], μ26)) rfl ?_
    refine gGet (is := List.drop 53 mC180) (v := .ref (mP μ26 p0 0)) h24 rfl ?_
    refine mGo.steps 8 (c' := (180, List.drop 61 mC180, [.ref p0, .int p1, w2, w3, w4, w5, .int s.1], [.int 0, .int ((412 + (2 * p1)) + s.1), .ref (mP μ26 p0 0)], μ26)) rfl ?_
    obtain ⟨h27, hr⟩ := mIf hr
    replace hr := mBs hr
    refine gIast (is := List.drop 62 mC180) h27 ?_
    let μ28 : mM := mUI μ26 (mP μ26 p0 0) (Int32.toNatClampNeg ((412 + (2 * p1)) + s.1)) 0
    refine gSt1 (L := [.ref p0, .int p1, w2, w3, w4, w5, .int s.1]) (q := 6) (w := .int (s.1 + 1)) (is := List.drop 63 mC180) (st := []) (μ := μ28) rfl (Nat.le_of_ble_eq_true rfl) hw5 ?_
    refine mGo.steps 1 (c' := (180, List.drop 39 mC180, [.ref p0, .int p1, w2, w3, w4, w5, .int (s.1 + 1)], [], μ28)) rfl ?_
    obtain rfl := Option.some.inj hr
    exact hC w2 hw2 w3 hw3 w4 hw4 w5 hw5
theorem t180L39l (p0 : Nat) (p1 : Int32) {r : Option Value × mM} (n : Nat) (s : Int32 × mM) (o : (mM) ⊕ mM) (hr : mLoop (s180L39 p0 p1) n s = some o) (hC : Sum.elim (fun x : mM => ∀ (w0 : Value) (hw0 : mNotL w0 = true) (w1 : Value) (hw1 : mNotL w1 = true) (w2 : Value) (hw2 : mNotL w2 = true) (w3 : Value) (hw3 : mNotL w3 = true) (w4 : Value) (hw4 : mNotL w4 = true) (w5 : Value) (hw5 : mNotL w5 = true) (w6 : Value) (hw6 : mNotL w6 = true), mGo mG (180, List.drop 64 mC180, [w0, w1, w2, w3, w4, w5, w6], [], x) r) (fun y : mM => r = (none, y)) o) : ∀ (w2 : Value) (hw2 : mNotL w2 = true) (w3 : Value) (hw3 : mNotL w3 = true) (w4 : Value) (hw4 : mNotL w4 = true) (w5 : Value) (hw5 : mNotL w5 = true), mGo mG (180, List.drop 39 mC180, [.ref p0, .int p1, w2, w3, w4, w5, .int s.1], [], s.2) r :=
  mLoop_go (Hd := (fun s' : Int32 × mM => ∀ (w2 : Value) (hw2 : mNotL w2 = true) (w3 : Value) (hw3 : mNotL w3 = true) (w4 : Value) (hw4 : mNotL w4 = true) (w5 : Value) (hw5 : mNotL w5 = true), mGo mG (180, List.drop 39 mC180, [.ref p0, .int p1, w2, w3, w4, w5, .int s'.1], [], s'.2) r)) (fun s o hb hC => t180L39 p0 p1 s o hb hC) n s o hr hC
def s180 (μ : mM) (a0 : Nat) (a1 : Int32) (a2 : Int32) (a3 : Int32) (a4 : Int32) (a5 : Int32) : Option mM :=
  if (mS μ a0).1 = 9 then (s149 μ a0 a1 0 1).bind fun q2 => if (mS q2 a0).1 = 9 then (s149 q2 a0 a1 1 a4).bind fun q5 => if (mS q5 a0).1 = 9 then (s149 q5 a0 a1 2 a5).bind fun q8 => if (mS q8 a0).1 = 9 then (s149 q8 a0 a1 3 a2).bind fun q11 => if (mS q11 a0).1 = 9 then (s149 q11 a0 a1 4 a3).bind fun q14 => (mLoop (s180L27 a0 a1) 1000 (5, q14)).bind fun o20 => Sum.elim (fun x21 => (mLoop (s180L39 a0 a1) 1000 (0, x21)).bind fun o30 => Sum.elim (fun x31 => some x31) (fun y32 => some y32) o30) (fun y22 => some y22) o20 else none else none else none else none else none
set_option maxRecDepth 20000 in
theorem t180 {μ : mM} {a0 : Nat} {a1 : Int32} {a2 : Int32} {a3 : Int32} {a4 : Int32} {a5 : Int32} {o : mM} (hr : s180 μ a0 a1 a2 a3 a4 a5 = some o) : mEv mG 180 [.ref a0, .int a1, .int a2, .int a3, .int a4, .int a5] μ (none) (o) := by
  obtain ⟨r, hC⟩ : ∃ r : Option Value × mM, r = (none, o) := ⟨_, rfl⟩
  show mGo mG (180, List.drop 0 mC180, [.ref a0, .int a1, .int a2, .int a3, .int a4, .int a5, .retAddr 0], [], μ) (none, o)
  rw [← hC]
  unfold s180 at hr
  refine mGo.steps 4 (c' := (180, List.drop 4 mC180, [.ref a0, .int a1, .int a2, .int a3, .int a4, .int a5, .retAddr 0], [.int 1, .int 0, .int a1, .ref a0], μ)) rfl ?_
  obtain ⟨h1, hr⟩ := mIf hr
  obtain ⟨q2, h3, hr⟩ := mBi hr
  refine gCall (z := 149) (n := 3) (f := 0) (kind := 1) (a := a0) (As := [.int a1, .int 0, .int 1]) (y := 180) (is := List.drop 5 mC180) (L := [.ref a0, .int a1, .int a2, .int a3, .int a4, .int a5, .retAddr 0]) (rest := []) (μ := μ) rfl (by decide) (by decide) ⟨rfl, rfl⟩ rfl h1 (Nat.le_of_ble_eq_true rfl) (Nat.le_of_ble_eq_true rfl) (t149 h3) ?_
  refine mGo.steps 4 (c' := (180, List.drop 9 mC180, [.ref a0, .int a1, .int a2, .int a3, .int a4, .int a5, .retAddr 0], [.int a4, .int 1, .int a1, .ref a0], q2)) rfl ?_
  obtain ⟨h4, hr⟩ := mIf hr
  obtain ⟨q5, h6, hr⟩ := mBi hr
  refine gCall (z := 149) (n := 3) (f := 0) (kind := 1) (a := a0) (As := [.int a1, .int 1, .int a4]) (y := 180) (is := List.drop 10 mC180) (L := [.ref a0, .int a1, .int a2, .int a3, .int a4, .int a5, .retAddr 0]) (rest := []) (μ := q2) rfl (by decide) (by decide) ⟨rfl, rfl⟩ rfl h4 (Nat.le_of_ble_eq_true rfl) (Nat.le_of_ble_eq_true rfl) (t149 h6) ?_
  refine mGo.steps 4 (c' := (180, List.drop 14 mC180, [.ref a0, .int a1, .int a2, .int a3, .int a4, .int a5, .retAddr 0], [.int a5, .int 2, .int a1, .ref a0], q5)) rfl ?_
  obtain ⟨h7, hr⟩ := mIf hr
  obtain ⟨q8, h9, hr⟩ := mBi hr
  refine gCall (z := 149) (n := 3) (f := 0) (kind := 1) (a := a0) (As := [.int a1, .int 2, .int a5]) (y := 180) (is := List.drop 15 mC180) (L := [.ref a0, .int a1, .int a2, .int a3, .int a4, .int a5, .retAddr 0]) (rest := []) (μ := q5) rfl (by decide) (by decide) ⟨rfl, rfl⟩ rfl h7 (Nat.le_of_ble_eq_true rfl) (Nat.le_of_ble_eq_true rfl) (t149 h9) ?_
  refine mGo.steps 4 (c' := (180, List.drop 19 mC180, [.ref a0, .int a1, .int a2, .int a3, .int a4, .int a5, .retAddr 0], [.int a2, .int 3, .int a1, .ref a0], q8)) rfl ?_
  obtain ⟨h10, hr⟩ := mIf hr
  obtain ⟨q11, h12, hr⟩ := mBi hr
  refine gCall (z := 149) (n := 3) (f := 0) (kind := 1) (a := a0) (As := [.int a1, .int 3, .int a2]) (y := 180) (is := List.drop 20 mC180) (L := [.ref a0, .int a1, .int a2, .int a3, .int a4, .int a5, .retAddr 0]) (rest := []) (μ := q8) rfl (by decide) (by decide) ⟨rfl, rfl⟩ rfl h10 (Nat.le_of_ble_eq_true rfl) (Nat.le_of_ble_eq_true rfl) (t149 h12) ?_
  refine mGo.steps 4 (c' := (180, List.drop 24 mC180, [.ref a0, .int a1, .int a2, .int a3, .int a4, .int a5, .retAddr 0], [.int a3, .int 4, .int a1, .ref a0], q11)) rfl ?_
  obtain ⟨h13, hr⟩ := mIf hr
  obtain ⟨q14, h15, hr⟩ := mBi hr
  refine gCall (z := 149) (n := 3) (f := 0) (kind := 1) (a := a0) (As := [.int a1, .int 4, .int a3]) (y := 180) (is := List.drop 25 mC180) (L := [.ref a0, .int a1, .int a2, .int a3, .int a4, .int a5, .retAddr 0]) (rest := []) (μ := q11) rfl (by decide) (by decide) ⟨rfl, rfl⟩ rfl h13 (Nat.le_of_ble_eq_true rfl) (Nat.le_of_ble_eq_true rfl) (t149 h15) ?_
  refine mGo.steps 2 (c' := (180, List.drop 27 mC180, [.ref a0, .int a1, .int a2, .int a3, .int a4, .int a5, .int 5], [], q14)) rfl ?_
  obtain ⟨o20, h23, hr⟩ := mBi hr
  refine t180L27l a0 a1 1000 (5, q14) o20 h23 ?_ (.int a2) rfl (.int a3) rfl (.int a4) rfl (.int a5) rfl
  cases o20 with
  | inl x21 =>
    show ∀ (w2 : Value) (hw2 : mNotL w2 = true) (w3 : Value) (hw3 : mNotL w3 = true) (w4 : Value) (hw4 : mNotL w4 = true) (w5 : Value) (hw5 : mNotL w5 = true) (w6 : Value) (hw6 : mNotL w6 = true), mGo mG (180, List.drop 37 mC180, [.ref a0, .int a1, w2, w3, w4, w5, w6], [], x21) r
    intro w2 hw2 w3 hw3 w4 hw4 w5 hw5 w6 hw6
    replace hr : (_) = some _ := hr
    refine mGo.steps 1 (c' := (180, List.drop 38 mC180, [.ref a0, .int a1, w2, w3, w4, w5, w6], [.int 0], x21)) rfl ?_
    refine gSt1 (L := [.ref a0, .int a1, w2, w3, w4, w5, w6]) (q := 6) (w := .int 0) (is := List.drop 39 mC180) (st := []) (μ := x21) rfl (Nat.le_of_ble_eq_true rfl) hw5 ?_
    obtain ⟨o30, h33, hr⟩ := mBi hr
    refine t180L39l a0 a1 1000 (0, x21) o30 h33 ?_ w2 hw2 w3 hw3 w4 hw4 w5 hw5
    cases o30 with
    | inl x31 =>
      show ∀ (w0 : Value) (hw0 : mNotL w0 = true) (w1 : Value) (hw1 : mNotL w1 = true) (w2 : Value) (hw2 : mNotL w2 = true) (w3 : Value) (hw3 : mNotL w3 = true) (w4 : Value) (hw4 : mNotL w4 = true) (w5 : Value) (hw5 : mNotL w5 = true) (w6 : Value) (hw6 : mNotL w6 = true), mGo mG (180, List.drop 64 mC180, [w0, w1, w2, w3, w4, w5, w6], [], x31) r
      intro w0 hw0 w1 hw1 w2 hw2 w3 hw3 w4 hw4 w5 hw5 w6 hw6
      replace hr : (_) = some _ := hr
      obtain rfl := Option.some.inj hr
      rw [show r = _ from hC]
      exact gVret rfl
    | inr y32 =>
      obtain rfl := Option.some.inj hr
      exact hC
  | inr y22 =>
    obtain rfl := Option.some.inj hr
    exact hC

/-! 181: TunnelFabricModel.build()I -/
def s181L10_25 (p0 : Nat) (μ : mM) (v2 : Int32) (t0 : Int32) (t1 : Int32) : Option ((Int32 × Int32 × mM) ⊕ ((Int32 × mM) ⊕ (Int32 × mM))) :=
  some (.inl (t1 + t0, v2 + 1, μ))
set_option maxRecDepth 20000 in
theorem t181L10_25 (p0 : Nat) (μ : mM) (v2 : Int32) (t0 : Int32) (t1 : Int32) (w1 : Value) (hw1 : mNotL w1 = true) {o : ((Int32 × Int32 × mM) ⊕ ((Int32 × mM) ⊕ (Int32 × mM)))} {r : Option Value × mM} (hr : s181L10_25 p0 μ v2 t0 t1 = some o) (hC : Sum.elim (fun s' : Int32 × Int32 × mM => mGo mG (181, List.drop 10 mC181, [.ref p0, .int s'.1, .int s'.2.1], [], s'.2.2) r) (Sum.elim (fun x : Int32 × mM => ∀ (w2 : Value) (hw2 : mNotL w2 = true), mGo mG (181, List.drop 29 mC181, [.ref p0, .int x.1, w2], [], x.2) r) (fun y : (Int32 × mM) => r = (some (.int y.1), y.2))) o) : mGo mG (181, List.drop 25 mC181, [.ref p0, w1, .int v2], [.int t0, .int t1], μ) r := by
  unfold s181L10_25 at hr
  refine mGo.steps 4 (c' := (181, List.drop 10 mC181, [.ref p0, .int (t1 + t0), .int (v2 + 1)], [], μ)) rfl ?_
  obtain rfl := Option.some.inj hr
  exact hC
def s181L10 (p0 : Nat) (s : Int32 × Int32 × mM) : Option ((Int32 × Int32 × mM) ⊕ ((Int32 × mM) ⊕ (Int32 × mM))) :=
  if 10 ≤ s.2.1 then (some (.inr (.inl (s.1, s.2.2)))) else (if (mS s.2.2 p0).1 = 9 then (s159 s.2.2 p0 s.2.1 0).bind fun q5 => if ¬ q5 = 1 then (s181L10_25 p0 s.2.2 s.2.1 0 s.1) else ((s172 s.2.2 p0 s.2.1).bind fun q7 => s181L10_25 p0 q7.2 s.2.1 q7.1 s.1) else none)
set_option maxRecDepth 20000 in
theorem t181L10 (p0 : Nat) {r : Option Value × mM} (s : Int32 × Int32 × mM) (o : ((Int32 × Int32 × mM) ⊕ ((Int32 × mM) ⊕ (Int32 × mM)))) (hr : s181L10 p0 s = some o) (hC : Sum.elim (fun s' : Int32 × Int32 × mM => mGo mG (181, List.drop 10 mC181, [.ref p0, .int s'.1, .int s'.2.1], [], s'.2.2) r) (Sum.elim (fun x : Int32 × mM => ∀ (w2 : Value) (hw2 : mNotL w2 = true), mGo mG (181, List.drop 29 mC181, [.ref p0, .int x.1, w2], [], x.2) r) (fun y : (Int32 × mM) => r = (some (.int y.1), y.2))) o) : mGo mG (181, List.drop 10 mC181, [.ref p0, .int s.1, .int s.2.1], [], s.2.2) r := by
  unfold s181L10 at hr
  refine mGo.steps 2 (c' := (181, List.drop 12 mC181, [.ref p0, .int s.1, .int s.2.1], [.int 10, .int s.2.1], s.2.2)) rfl ?_
  rcases mIte hr with ⟨h10, hr⟩ | ⟨h10, hr⟩
  · refine gBrT (p := 10 ≤ s.2.1) (y := 181) (is := List.drop 13 mC181) (L := [.ref p0, .int s.1, .int s.2.1]) (st := []) (μ := s.2.2) (t := 50) rfl h10 ?_
    obtain rfl := Option.some.inj hr
    exact hC (.int s.2.1) rfl
  · refine gBrF (p := 10 ≤ s.2.1) (y := 181) (is := List.drop 13 mC181) (L := [.ref p0, .int s.1, .int s.2.1]) (st := []) (μ := s.2.2) (t := 50) rfl h10 ?_
    refine mGo.steps 4 (c' := (181, List.drop 17 mC181, [.ref p0, .int s.1, .int s.2.1], [.int 0, .int s.2.1, .ref p0, .int s.1], s.2.2)) rfl ?_
    obtain ⟨h4, hr⟩ := mIf hr
    obtain ⟨q5, h6, hr⟩ := mBi hr
    refine gCall (z := 159) (n := 2) (f := 0) (kind := 1) (a := p0) (As := [.int s.2.1, .int 0]) (y := 181) (is := List.drop 18 mC181) (L := [.ref p0, .int s.1, .int s.2.1]) (rest := [.int s.1]) (μ := s.2.2) rfl (by decide) (by decide) ⟨rfl, rfl⟩ rfl h4 (Nat.le_of_ble_eq_true rfl) (Nat.le_of_ble_eq_true rfl) (t159 h6) ?_
    refine mGo.steps 1 (c' := (181, List.drop 19 mC181, [.ref p0, .int s.1, .int s.2.1], [.int 1, .int q5, .int s.1], s.2.2)) rfl ?_
    rcases mIte hr with ⟨h9, hr⟩ | ⟨h9, hr⟩
    · refine gBrT (p := ¬ q5 = 1) (y := 181) (is := List.drop 20 mC181) (L := [.ref p0, .int s.1, .int s.2.1]) (st := [.int s.1]) (μ := s.2.2) (t := 41) rfl h9 ?_
      refine mGo.steps 1 (c' := (181, List.drop 25 mC181, [.ref p0, .int s.1, .int s.2.1], [.int 0, .int s.1], s.2.2)) rfl ?_
      exact t181L10_25 p0 s.2.2 s.2.1 0 s.1 (.int s.1) rfl hr hC
    · refine gBrF (p := ¬ q5 = 1) (y := 181) (is := List.drop 20 mC181) (L := [.ref p0, .int s.1, .int s.2.1]) (st := [.int s.1]) (μ := s.2.2) (t := 41) rfl h9 ?_
      refine mGo.steps 2 (c' := (181, List.drop 22 mC181, [.ref p0, .int s.1, .int s.2.1], [.int s.2.1, .ref p0, .int s.1], s.2.2)) rfl ?_
      obtain ⟨q7, h8, hr⟩ := mBi hr
      refine gCall (z := 172) (n := 1) (f := 0) (kind := 1) (a := p0) (As := [.int s.2.1]) (y := 181) (is := List.drop 23 mC181) (L := [.ref p0, .int s.1, .int s.2.1]) (rest := [.int s.1]) (μ := s.2.2) rfl (by decide) (by decide) ⟨rfl, rfl⟩ rfl h4 (Nat.le_of_ble_eq_true rfl) (Nat.le_of_ble_eq_true rfl) (t172 h8) ?_
      refine mGo.steps 1 (c' := (181, List.drop 25 mC181, [.ref p0, .int s.1, .int s.2.1], [.int q7.1, .int s.1], q7.2)) rfl ?_
      exact t181L10_25 p0 q7.2 s.2.1 q7.1 s.1 (.int s.1) rfl hr hC
theorem t181L10l (p0 : Nat) {r : Option Value × mM} (n : Nat) (s : Int32 × Int32 × mM) (o : (Int32 × mM) ⊕ (Int32 × mM)) (hr : mLoop (s181L10 p0) n s = some o) (hC : Sum.elim (fun x : Int32 × mM => ∀ (w2 : Value) (hw2 : mNotL w2 = true), mGo mG (181, List.drop 29 mC181, [.ref p0, .int x.1, w2], [], x.2) r) (fun y : (Int32 × mM) => r = (some (.int y.1), y.2)) o) : mGo mG (181, List.drop 10 mC181, [.ref p0, .int s.1, .int s.2.1], [], s.2.2) r :=
  mLoop_go (Hd := (fun s' : Int32 × Int32 × mM => mGo mG (181, List.drop 10 mC181, [.ref p0, .int s'.1, .int s'.2.1], [], s'.2.2) r)) (fun s o hb hC => t181L10 p0 s o hb hC) n s o hr hC
def s181L31 (p0 : Nat) (p1 : Int32) (s : Int32 × mM) : Option ((Int32 × mM) ⊕ ((mM) ⊕ (Int32 × mM))) :=
  if 8 ≤ s.1 then (some (.inr (.inl s.2))) else (if (mS s.2 p0).1 = 9 then (s149 s.2 p0 s.1 0 0).bind fun q16 => some (.inl (s.1 + 1, q16)) else none)
set_option maxRecDepth 20000 in
theorem t181L31 (p0 : Nat) (p1 : Int32) {r : Option Value × mM} (s : Int32 × mM) (o : ((Int32 × mM) ⊕ ((mM) ⊕ (Int32 × mM)))) (hr : s181L31 p0 p1 s = some o) (hC : Sum.elim (fun s' : Int32 × mM => mGo mG (181, List.drop 31 mC181, [.ref p0, .int p1, .int s'.1], [], s'.2) r) (Sum.elim (fun x : mM => ∀ (w2 : Value) (hw2 : mNotL w2 = true), mGo mG (181, List.drop 41 mC181, [.ref p0, .int p1, w2], [], x) r) (fun y : (Int32 × mM) => r = (some (.int y.1), y.2))) o) : mGo mG (181, List.drop 31 mC181, [.ref p0, .int p1, .int s.1], [], s.2) r := by
  unfold s181L31 at hr
  refine mGo.steps 2 (c' := (181, List.drop 33 mC181, [.ref p0, .int p1, .int s.1], [.int 8, .int s.1], s.2)) rfl ?_
  rcases mIte hr with ⟨h18, hr⟩ | ⟨h18, hr⟩
  · refine gBrT (p := 8 ≤ s.1) (y := 181) (is := List.drop 34 mC181) (L := [.ref p0, .int p1, .int s.1]) (st := []) (μ := s.2) (t := 71) rfl h18 ?_
    obtain rfl := Option.some.inj hr
    exact hC (.int s.1) rfl
  · refine gBrF (p := 8 ≤ s.1) (y := 181) (is := List.drop 34 mC181) (L := [.ref p0, .int p1, .int s.1]) (st := []) (μ := s.2) (t := 71) rfl h18 ?_
    refine mGo.steps 4 (c' := (181, List.drop 38 mC181, [.ref p0, .int p1, .int s.1], [.int 0, .int 0, .int s.1, .ref p0], s.2)) rfl ?_
    obtain ⟨h15, hr⟩ := mIf hr
    obtain ⟨q16, h17, hr⟩ := mBi hr
    refine gCall (z := 149) (n := 3) (f := 0) (kind := 1) (a := p0) (As := [.int s.1, .int 0, .int 0]) (y := 181) (is := List.drop 39 mC181) (L := [.ref p0, .int p1, .int s.1]) (rest := []) (μ := s.2) rfl (by decide) (by decide) ⟨rfl, rfl⟩ rfl h15 (Nat.le_of_ble_eq_true rfl) (Nat.le_of_ble_eq_true rfl) (t149 h17) ?_
    refine mGo.steps 2 (c' := (181, List.drop 31 mC181, [.ref p0, .int p1, .int (s.1 + 1)], [], q16)) rfl ?_
    obtain rfl := Option.some.inj hr
    exact hC
theorem t181L31l (p0 : Nat) (p1 : Int32) {r : Option Value × mM} (n : Nat) (s : Int32 × mM) (o : (mM) ⊕ (Int32 × mM)) (hr : mLoop (s181L31 p0 p1) n s = some o) (hC : Sum.elim (fun x : mM => ∀ (w2 : Value) (hw2 : mNotL w2 = true), mGo mG (181, List.drop 41 mC181, [.ref p0, .int p1, w2], [], x) r) (fun y : (Int32 × mM) => r = (some (.int y.1), y.2)) o) : mGo mG (181, List.drop 31 mC181, [.ref p0, .int p1, .int s.1], [], s.2) r :=
  mLoop_go (Hd := (fun s' : Int32 × mM => mGo mG (181, List.drop 31 mC181, [.ref p0, .int p1, .int s'.1], [], s'.2) r)) (fun s o hb hC => t181L31 p0 p1 s o hb hC) n s o hr hC
def s181L43 (p0 : Nat) (p1 : Int32) (s : Int32 × mM) : Option ((Int32 × mM) ⊕ ((mM) ⊕ (Int32 × mM))) :=
  if (mS s.2 p0).1 = 9 then if (mI s.2 p0 11) < s.1 then (some (.inr (.inl s.2))) else (if (mS s.2 (mP s.2 p0 9)).1 = 10 ∧ mInb s.1 (mS s.2 (mP s.2 p0 9)).2 then if (mS s.2 (mP s.2 p0 10)).1 = 10 ∧ mInb s.1 (mS s.2 (mP s.2 p0 10)).2 then if (mS s.2 (mP s.2 p0 7)).1 = 10 ∧ mInb s.1 (mS s.2 (mP s.2 p0 7)).2 then if (mS s.2 (mP s.2 p0 8)).1 = 10 ∧ mInb s.1 (mS s.2 (mP s.2 p0 8)).2 then (s180 s.2 p0 s.1 (mI s.2 (mP s.2 p0 9) (Int32.toNatClampNeg s.1)) (mI s.2 (mP s.2 p0 10) (Int32.toNatClampNeg s.1)) (mI s.2 (mP s.2 p0 7) (Int32.toNatClampNeg s.1)) (mI s.2 (mP s.2 p0 8) (Int32.toNatClampNeg s.1))).bind fun q28 => some (.inl (s.1 + 1, q28)) else none else none else none else none) else none
set_option maxRecDepth 20000 in
theorem t181L43 (p0 : Nat) (p1 : Int32) {r : Option Value × mM} (s : Int32 × mM) (o : ((Int32 × mM) ⊕ ((mM) ⊕ (Int32 × mM)))) (hr : s181L43 p0 p1 s = some o) (hC : Sum.elim (fun s' : Int32 × mM => mGo mG (181, List.drop 43 mC181, [.ref p0, .int p1, .int s'.1], [], s'.2) r) (Sum.elim (fun x : mM => ∀ (w2 : Value) (hw2 : mNotL w2 = true), mGo mG (181, List.drop 68 mC181, [.ref p0, .int p1, w2], [], x) r) (fun y : (Int32 × mM) => r = (some (.int y.1), y.2))) o) : mGo mG (181, List.drop 43 mC181, [.ref p0, .int p1, .int s.1], [], s.2) r := by
  unfold s181L43 at hr
  refine mGo.steps 2 (c' := (181, List.drop 45 mC181, [.ref p0, .int p1, .int s.1], [.ref p0, .int s.1], s.2)) rfl ?_
  obtain ⟨h23, hr⟩ := mIf hr
  refine gGet (is := List.drop 46 mC181) (v := .int (mI s.2 p0 11)) h23 rfl ?_
  rcases mIte hr with ⟨h30, hr⟩ | ⟨h30, hr⟩
  · refine gBrT (p := (mI s.2 p0 11) < s.1) (y := 181) (is := List.drop 47 mC181) (L := [.ref p0, .int p1, .int s.1]) (st := []) (μ := s.2) (t := 116) rfl h30 ?_
    obtain rfl := Option.some.inj hr
    exact hC (.int s.1) rfl
  · refine gBrF (p := (mI s.2 p0 11) < s.1) (y := 181) (is := List.drop 47 mC181) (L := [.ref p0, .int p1, .int s.1]) (st := []) (μ := s.2) (t := 116) rfl h30 ?_
    refine mGo.steps 3 (c' := (181, List.drop 50 mC181, [.ref p0, .int p1, .int s.1], [.ref p0, .int s.1, .ref p0], s.2)) rfl ?_
    refine gGet (is := List.drop 51 mC181) (v := .ref (mP s.2 p0 9)) h23 rfl ?_
    refine mGo.steps 1 (c' := (181, List.drop 52 mC181, [.ref p0, .int p1, .int s.1], [.int s.1, .ref (mP s.2 p0 9), .int s.1, .ref p0], s.2)) rfl ?_
    obtain ⟨h24, hr⟩ := mIf hr
    refine gIald (is := List.drop 53 mC181) h24 ?_
    refine mGo.steps 1 (c' := (181, List.drop 54 mC181, [.ref p0, .int p1, .int s.1], [.ref p0, .int (mI s.2 (mP s.2 p0 9) (Int32.toNatClampNeg s.1)), .int s.1, .ref p0], s.2)) rfl ?_
    refine gGet (is := List.drop 55 mC181) (v := .ref (mP s.2 p0 10)) h23 rfl ?_
    refine mGo.steps 1 (c' := (181, List.drop 56 mC181, [.ref p0, .int p1, .int s.1], [.int s.1, .ref (mP s.2 p0 10), .int (mI s.2 (mP s.2 p0 9) (Int32.toNatClampNeg s.1)), .int s.1, .ref p0], s.2)) rfl ?_
    obtain ⟨h25, hr⟩ := mIf hr
    refine gIald (is := List.drop 57 mC181) h25 ?_
    refine mGo.steps 1 (c' := (181, List.drop 58 mC181, [.ref p0, .int p1, .int s.1], [.ref p0, .int (mI s.2 (mP s.2 p0 10) (Int32.toNatClampNeg s.1)), .int (mI s.2 (mP s.2 p0 9) (Int32.toNatClampNeg s.1)), .int s.1, .ref p0], s.2)) rfl ?_
    refine gGet (is := List.drop 59 mC181) (v := .ref (mP s.2 p0 7)) h23 rfl ?_
    refine mGo.steps 1 (c' := (181, List.drop 60 mC181, [.ref p0, .int p1, .int s.1], [.int s.1, .ref (mP s.2 p0 7), .int (mI s.2 (mP s.2 p0 10) (Int32.toNatClampNeg s.1)), .int (mI s.2 (mP s.2 p0 9) (Int32.toNatClampNeg s.1)), .int s.1, .ref p0], s.2)) rfl ?_
    obtain ⟨h26, hr⟩ := mIf hr
    refine gIald (is := List.drop 61 mC181) h26 ?_
    refine mGo.steps 1 (c' := (181, List.drop 62 mC181, [.ref p0, .int p1, .int s.1], [.ref p0, .int (mI s.2 (mP s.2 p0 7) (Int32.toNatClampNeg s.1)), .int (mI s.2 (mP s.2 p0 10) (Int32.toNatClampNeg s.1)), .int (mI s.2 (mP s.2 p0 9) (Int32.toNatClampNeg s.1)), .int s.1, .ref p0], s.2)) rfl ?_
    refine gGet (is := List.drop 63 mC181) (v := .ref (mP s.2 p0 8)) h23 rfl ?_
    refine mGo.steps 1 (c' := (181, List.drop 64 mC181, [.ref p0, .int p1, .int s.1], [.int s.1, .ref (mP s.2 p0 8), .int (mI s.2 (mP s.2 p0 7) (Int32.toNatClampNeg s.1)), .int (mI s.2 (mP s.2 p0 10) (Int32.toNatClampNeg s.1)), .int (mI s.2 (mP s.2 p0 9) (Int32.toNatClampNeg s.1)), .int s.1, .ref p0], s.2)) rfl ?_
    obtain ⟨h27, hr⟩ := mIf hr
    refine gIald (is := List.drop 65 mC181) h27 ?_
    obtain ⟨q28, h29, hr⟩ := mBi hr
    refine gCall (z := 180) (n := 5) (f := 0) (kind := 1) (a := p0) (As := [.int s.1, .int (mI s.2 (mP s.2 p0 9) (Int32.toNatClampNeg s.1)), .int (mI s.2 (mP s.2 p0 10) (Int32.toNatClampNeg s.1)), .int (mI s.2 (mP s.2 p0 7) (Int32.toNatClampNeg s.1)), .int (mI s.2 (mP s.2 p0 8) (Int32.toNatClampNeg s.1))]) (y := 181) (is := List.drop 66 mC181) (L := [.ref p0, .int p1, .int s.1]) (rest := []) (μ := s.2) rfl (by decide) (by decide) ⟨rfl, rfl⟩ rfl h23 (Nat.le_of_ble_eq_true rfl) (Nat.le_of_ble_eq_true rfl) (t180 h29) ?_
    refine mGo.steps 2 (c' := (181, List.drop 43 mC181, [.ref p0, .int p1, .int (s.1 + 1)], [], q28)) rfl ?_
    obtain rfl := Option.some.inj hr
    exact hC
theorem t181L43l (p0 : Nat) (p1 : Int32) {r : Option Value × mM} (n : Nat) (s : Int32 × mM) (o : (mM) ⊕ (Int32 × mM)) (hr : mLoop (s181L43 p0 p1) n s = some o) (hC : Sum.elim (fun x : mM => ∀ (w2 : Value) (hw2 : mNotL w2 = true), mGo mG (181, List.drop 68 mC181, [.ref p0, .int p1, w2], [], x) r) (fun y : (Int32 × mM) => r = (some (.int y.1), y.2)) o) : mGo mG (181, List.drop 43 mC181, [.ref p0, .int p1, .int s.1], [], s.2) r :=
  mLoop_go (Hd := (fun s' : Int32 × mM => mGo mG (181, List.drop 43 mC181, [.ref p0, .int p1, .int s'.1], [], s'.2) r)) (fun s o hb hC => t181L43 p0 p1 s o hb hC) n s o hr hC
def s181_75 (a0 : Nat) (μ : mM) (t0 : Int32) (t1 : Nat) : Option (Int32 × mM) :=
  if (mS μ t1).1 = 9 then (some (mUI μ t1 6 t0)).bind fun μ36 => if (mS μ36 a0).1 = 9 then some ((mI μ36 a0 11) + 1, μ36) else none else none
set_option maxRecDepth 20000 in
theorem t181_75 (a0 : Nat) (μ : mM) (t0 : Int32) (t1 : Nat) (w1 : Value) (hw1 : mNotL w1 = true) (w2 : Value) (hw2 : mNotL w2 = true) {o : (Int32 × mM)} {r : Option Value × mM} (hr : s181_75 a0 μ t0 t1 = some o) (hC : r = (some (.int o.1), o.2)) : mGo mG (181, List.drop 75 mC181, [.ref a0, w1, w2], [.int t0, .ref t1], μ) r := by
  unfold s181_75 at hr
  obtain ⟨h35, hr⟩ := mIf hr
  replace hr := mBs hr
  refine gPut (is := List.drop 76 mC181) (μ' := mUI μ t1 6 t0) h35 rfl ?_
  let μ36 : mM := mUI μ t1 6 t0
  refine mGo.steps 1 (c' := (181, List.drop 77 mC181, [.ref a0, w1, w2], [.ref a0], μ36)) rfl ?_
  obtain ⟨h37, hr⟩ := mIf hr
  refine gGet (is := List.drop 78 mC181) (v := .int (mI μ36 a0 11)) h37 rfl ?_
  refine mGo.steps 2 (c' := (181, List.drop 80 mC181, [.ref a0, w1, w2], [.int ((mI μ36 a0 11) + 1)], μ36)) rfl ?_
  obtain rfl := Option.some.inj hr
  rw [show r = _ from hC]
  exact gIret rfl
def s181 (μ : mM) (a0 : Nat) : Option (Int32 × mM) :=
  if (mS μ a0).1 = 9 then (s177 μ a0).bind fun q2 => if q2.1 = (-10) then ((mLoop (s181L10 a0) 1000 (0, 0, q2.2)).bind fun o11 => Sum.elim (fun x12 => (mLoop (s181L31 a0 x12.1) 1000 (1, x12.2)).bind fun o19 => Sum.elim (fun x20 => (mLoop (s181L43 a0 x12.1) 1000 (1, x20)).bind fun o31 => Sum.elim (fun x32 => if 0 ≤ x12.1 then (s181_75 a0 x32 0 a0) else (if (mS x32 a0).1 = 9 then s181_75 a0 x32 (mI x32 a0 6) a0 else none)) (fun y33 => some y33) o31) (fun y21 => some y21) o19) (fun y13 => some y13) o11) else (some ((-8), q2.2)) else none
set_option maxRecDepth 20000 in
theorem t181 {μ : mM} {a0 : Nat} {o : (Int32 × mM)} (hr : s181 μ a0 = some o) : mEv mG 181 [.ref a0] μ (some (.int o.1)) (o.2) := by
  obtain ⟨r, hC⟩ : ∃ r : Option Value × mM, r = (some (.int o.1), o.2) := ⟨_, rfl⟩
  show mGo mG (181, List.drop 0 mC181, [.ref a0, .retAddr 0, .retAddr 0], [], μ) (some (.int o.1), o.2)
  rw [← hC]
  unfold s181 at hr
  refine mGo.steps 1 (c' := (181, List.drop 1 mC181, [.ref a0, .retAddr 0, .retAddr 0], [.ref a0], μ)) rfl ?_
  obtain ⟨h1, hr⟩ := mIf hr
  obtain ⟨q2, h3, hr⟩ := mBi hr
  refine gCall (z := 177) (n := 0) (f := 0) (kind := 1) (a := a0) (As := []) (y := 181) (is := List.drop 2 mC181) (L := [.ref a0, .retAddr 0, .retAddr 0]) (rest := []) (μ := μ) rfl (by decide) (by decide) ⟨rfl, rfl⟩ rfl h1 (Nat.le_of_ble_eq_true rfl) (Nat.le_of_ble_eq_true rfl) (t177 h3) ?_
  refine mGo.steps 1 (c' := (181, List.drop 3 mC181, [.ref a0, .retAddr 0, .retAddr 0], [.int (-10), .int q2.1], q2.2)) rfl ?_
  rcases mIte hr with ⟨h40, hr⟩ | ⟨h40, hr⟩
  · refine gBrT (p := q2.1 = (-10)) (y := 181) (is := List.drop 4 mC181) (L := [.ref a0, .retAddr 0, .retAddr 0]) (st := []) (μ := q2.2) (t := 12) rfl h40 ?_
    refine mGo.steps 4 (c' := (181, List.drop 10 mC181, [.ref a0, .int 0, .int 0], [], q2.2)) rfl ?_
    obtain ⟨o11, h14, hr⟩ := mBi hr
    refine t181L10l a0 1000 (0, 0, q2.2) o11 h14 ?_ 
    cases o11 with
    | inl x12 =>
      show ∀ (w2 : Value) (hw2 : mNotL w2 = true), mGo mG (181, List.drop 29 mC181, [.ref a0, .int x12.1, w2], [], x12.2) r
      intro w2 hw2
      replace hr : (_) = some _ := hr
      refine mGo.steps 2 (c' := (181, List.drop 31 mC181, [.ref a0, .int x12.1, .int 1], [], x12.2)) rfl ?_
      obtain ⟨o19, h22, hr⟩ := mBi hr
      refine t181L31l a0 x12.1 1000 (1, x12.2) o19 h22 ?_ 
      cases o19 with
      | inl x20 =>
        show ∀ (w2 : Value) (hw2 : mNotL w2 = true), mGo mG (181, List.drop 41 mC181, [.ref a0, .int x12.1, w2], [], x20) r
        intro w2 hw2
        replace hr : (_) = some _ := hr
        refine mGo.steps 2 (c' := (181, List.drop 43 mC181, [.ref a0, .int x12.1, .int 1], [], x20)) rfl ?_
        obtain ⟨o31, h34, hr⟩ := mBi hr
        refine t181L43l a0 x12.1 1000 (1, x20) o31 h34 ?_ 
        cases o31 with
        | inl x32 =>
          show ∀ (w2 : Value) (hw2 : mNotL w2 = true), mGo mG (181, List.drop 68 mC181, [.ref a0, .int x12.1, w2], [], x32) r
          intro w2 hw2
          replace hr : (_) = some _ := hr
          refine mGo.steps 2 (c' := (181, List.drop 70 mC181, [.ref a0, .int x12.1, w2], [.int x12.1, .ref a0], x32)) rfl ?_
          rcases mIte hr with ⟨h39, hr⟩ | ⟨h39, hr⟩
          · refine gBrT (p := 0 ≤ x12.1) (y := 181) (is := List.drop 71 mC181) (L := [.ref a0, .int x12.1, w2]) (st := [.ref a0]) (μ := x32) (t := 128) rfl h39 ?_
            refine mGo.steps 1 (c' := (181, List.drop 75 mC181, [.ref a0, .int x12.1, w2], [.int 0, .ref a0], x32)) rfl ?_
            exact t181_75 a0 x32 0 a0 (.int x12.1) rfl w2 hw2 hr hC
          · refine gBrF (p := 0 ≤ x12.1) (y := 181) (is := List.drop 71 mC181) (L := [.ref a0, .int x12.1, w2]) (st := [.ref a0]) (μ := x32) (t := 128) rfl h39 ?_
            refine mGo.steps 1 (c' := (181, List.drop 72 mC181, [.ref a0, .int x12.1, w2], [.ref a0, .ref a0], x32)) rfl ?_
            obtain ⟨h38, hr⟩ := mIf hr
            refine gGet (is := List.drop 73 mC181) (v := .int (mI x32 a0 6)) h38 rfl ?_
            refine mGo.steps 1 (c' := (181, List.drop 75 mC181, [.ref a0, .int x12.1, w2], [.int (mI x32 a0 6), .ref a0], x32)) rfl ?_
            exact t181_75 a0 x32 (mI x32 a0 6) a0 (.int x12.1) rfl w2 hw2 hr hC
        | inr y33 =>
          obtain rfl := Option.some.inj hr
          exact hC
      | inr y21 =>
        obtain rfl := Option.some.inj hr
        exact hC
    | inr y13 =>
      obtain rfl := Option.some.inj hr
      exact hC
  · refine gBrF (p := q2.1 = (-10)) (y := 181) (is := List.drop 4 mC181) (L := [.ref a0, .retAddr 0, .retAddr 0]) (st := []) (μ := q2.2) (t := 12) rfl h40 ?_
    refine mGo.steps 1 (c' := (181, List.drop 5 mC181, [.ref a0, .retAddr 0, .retAddr 0], [.int (-8)], q2.2)) rfl ?_
    obtain rfl := Option.some.inj hr
    rw [show r = _ from hC]
    exact gIret rfl

/-! 182: TunnelFabricModel.inPort(II)I -/
def s182L4_28 (μ : mM) (p0 : Nat) (p1 : Int32) (p2 : Int32) (v4 : Int32) (t0 : Int32) : Option ((Int32 × Int32) ⊕ ((Int32) ⊕ Int32)) :=
  some (.inl (t0, v4 + 1))
set_option maxRecDepth 20000 in
theorem t182L4_28 (μ : mM) (p0 : Nat) (p1 : Int32) (p2 : Int32) (v4 : Int32) (t0 : Int32) (w3 : Value) (hw3 : mNotL w3 = true) {o : ((Int32 × Int32) ⊕ ((Int32) ⊕ Int32))} {r : Option Value × mM} (hr : s182L4_28 μ p0 p1 p2 v4 t0 = some o) (hC : Sum.elim (fun s' : Int32 × Int32 => mGo mG (182, List.drop 4 mC182, [.ref p0, .int p1, .int p2, .int s'.1, .int s'.2], [], μ) r) (Sum.elim (fun x : Int32 => ∀ (w0 : Value) (hw0 : mNotL w0 = true) (w1 : Value) (hw1 : mNotL w1 = true) (w2 : Value) (hw2 : mNotL w2 = true) (w4 : Value) (hw4 : mNotL w4 = true), mGo mG (182, List.drop 31 mC182, [w0, w1, w2, .int x, w4], [], μ) r) (fun y : Int32 => r = (some (.int y), μ))) o) : mGo mG (182, List.drop 28 mC182, [.ref p0, .int p1, .int p2, w3, .int v4], [.int t0], μ) r := by
  unfold s182L4_28 at hr
  refine mGo.steps 3 (c' := (182, List.drop 4 mC182, [.ref p0, .int p1, .int p2, .int t0, .int (v4 + 1)], [], μ)) rfl ?_
  obtain rfl := Option.some.inj hr
  exact hC
def s182L4_27 (μ : mM) (p0 : Nat) (p1 : Int32) (p2 : Int32) (v3 : Int32) (v4 : Int32) : Option ((Int32 × Int32) ⊕ ((Int32) ⊕ Int32)) :=
  s182L4_28 μ p0 p1 p2 v4 v3
set_option maxRecDepth 20000 in
theorem t182L4_27 (μ : mM) (p0 : Nat) (p1 : Int32) (p2 : Int32) (v3 : Int32) (v4 : Int32) {o : ((Int32 × Int32) ⊕ ((Int32) ⊕ Int32))} {r : Option Value × mM} (hr : s182L4_27 μ p0 p1 p2 v3 v4 = some o) (hC : Sum.elim (fun s' : Int32 × Int32 => mGo mG (182, List.drop 4 mC182, [.ref p0, .int p1, .int p2, .int s'.1, .int s'.2], [], μ) r) (Sum.elim (fun x : Int32 => ∀ (w0 : Value) (hw0 : mNotL w0 = true) (w1 : Value) (hw1 : mNotL w1 = true) (w2 : Value) (hw2 : mNotL w2 = true) (w4 : Value) (hw4 : mNotL w4 = true), mGo mG (182, List.drop 31 mC182, [w0, w1, w2, .int x, w4], [], μ) r) (fun y : Int32 => r = (some (.int y), μ))) o) : mGo mG (182, List.drop 27 mC182, [.ref p0, .int p1, .int p2, .int v3, .int v4], [], μ) r := by
  unfold s182L4_27 at hr
  refine mGo.steps 1 (c' := (182, List.drop 28 mC182, [.ref p0, .int p1, .int p2, .int v3, .int v4], [.int v3], μ)) rfl ?_
  exact t182L4_28 μ p0 p1 p2 v4 v3 (.int v3) rfl hr hC
def s182L4 (μ : mM) (p0 : Nat) (p1 : Int32) (p2 : Int32) (s : Int32 × Int32) : Option ((Int32 × Int32) ⊕ ((Int32) ⊕ Int32)) :=
  if 8 ≤ s.2 then (some (.inr (.inl s.1))) else (if (mS μ p0).1 = 9 then (s148 μ p0 s.2 0).bind fun q2 => if ¬ q2 = 1 then (s182L4_27 μ p0 p1 p2 s.1 s.2) else ((s148 μ p0 s.2 3).bind fun q4 => if ¬ q4 = p1 then (s182L4_27 μ p0 p1 p2 s.1 s.2) else ((s148 μ p0 s.2 4).bind fun q6 => if ¬ q6 = p2 then (s182L4_27 μ p0 p1 p2 s.1 s.2) else (s182L4_28 μ p0 p1 p2 s.2 s.2))) else none)
set_option maxRecDepth 20000 in
theorem t182L4 (μ : mM) (p0 : Nat) (p1 : Int32) (p2 : Int32) {r : Option Value × mM} (s : Int32 × Int32) (o : ((Int32 × Int32) ⊕ ((Int32) ⊕ Int32))) (hr : s182L4 μ p0 p1 p2 s = some o) (hC : Sum.elim (fun s' : Int32 × Int32 => mGo mG (182, List.drop 4 mC182, [.ref p0, .int p1, .int p2, .int s'.1, .int s'.2], [], μ) r) (Sum.elim (fun x : Int32 => ∀ (w0 : Value) (hw0 : mNotL w0 = true) (w1 : Value) (hw1 : mNotL w1 = true) (w2 : Value) (hw2 : mNotL w2 = true) (w4 : Value) (hw4 : mNotL w4 = true), mGo mG (182, List.drop 31 mC182, [w0, w1, w2, .int x, w4], [], μ) r) (fun y : Int32 => r = (some (.int y), μ))) o) : mGo mG (182, List.drop 4 mC182, [.ref p0, .int p1, .int p2, .int s.1, .int s.2], [], μ) r := by
  unfold s182L4 at hr
  refine mGo.steps 2 (c' := (182, List.drop 6 mC182, [.ref p0, .int p1, .int p2, .int s.1, .int s.2], [.int 8, .int s.2], μ)) rfl ?_
  rcases mIte hr with ⟨h11, hr⟩ | ⟨h11, hr⟩
  · refine gBrT (p := 8 ≤ s.2) (y := 182) (is := List.drop 7 mC182) (L := [.ref p0, .int p1, .int p2, .int s.1, .int s.2]) (st := []) (μ := μ) (t := 59) rfl h11 ?_
    obtain rfl := Option.some.inj hr
    exact hC (.ref p0) rfl (.int p1) rfl (.int p2) rfl (.int s.2) rfl
  · refine gBrF (p := 8 ≤ s.2) (y := 182) (is := List.drop 7 mC182) (L := [.ref p0, .int p1, .int p2, .int s.1, .int s.2]) (st := []) (μ := μ) (t := 59) rfl h11 ?_
    refine mGo.steps 3 (c' := (182, List.drop 10 mC182, [.ref p0, .int p1, .int p2, .int s.1, .int s.2], [.int 0, .int s.2, .ref p0], μ)) rfl ?_
    obtain ⟨h1, hr⟩ := mIf hr
    obtain ⟨q2, h3, hr⟩ := mBi hr
    refine gCall (z := 148) (n := 2) (f := 0) (kind := 1) (a := p0) (As := [.int s.2, .int 0]) (y := 182) (is := List.drop 11 mC182) (L := [.ref p0, .int p1, .int p2, .int s.1, .int s.2]) (rest := []) (μ := μ) rfl (by decide) (by decide) ⟨rfl, rfl⟩ rfl h1 (Nat.le_of_ble_eq_true rfl) (Nat.le_of_ble_eq_true rfl) (t148 h3) ?_
    refine mGo.steps 1 (c' := (182, List.drop 12 mC182, [.ref p0, .int p1, .int p2, .int s.1, .int s.2], [.int 1, .int q2], μ)) rfl ?_
    rcases mIte hr with ⟨h10, hr⟩ | ⟨h10, hr⟩
    · refine gBrT (p := ¬ q2 = 1) (y := 182) (is := List.drop 13 mC182) (L := [.ref p0, .int p1, .int p2, .int s.1, .int s.2]) (st := []) (μ := μ) (t := 51) rfl h10 ?_
      exact t182L4_27 μ p0 p1 p2 s.1 s.2 hr hC
    · refine gBrF (p := ¬ q2 = 1) (y := 182) (is := List.drop 13 mC182) (L := [.ref p0, .int p1, .int p2, .int s.1, .int s.2]) (st := []) (μ := μ) (t := 51) rfl h10 ?_
      refine mGo.steps 3 (c' := (182, List.drop 16 mC182, [.ref p0, .int p1, .int p2, .int s.1, .int s.2], [.int 3, .int s.2, .ref p0], μ)) rfl ?_
      obtain ⟨q4, h5, hr⟩ := mBi hr
      refine gCall (z := 148) (n := 2) (f := 0) (kind := 1) (a := p0) (As := [.int s.2, .int 3]) (y := 182) (is := List.drop 17 mC182) (L := [.ref p0, .int p1, .int p2, .int s.1, .int s.2]) (rest := []) (μ := μ) rfl (by decide) (by decide) ⟨rfl, rfl⟩ rfl h1 (Nat.le_of_ble_eq_true rfl) (Nat.le_of_ble_eq_true rfl) (t148 h5) ?_
      refine mGo.steps 1 (c' := (182, List.drop 18 mC182, [.ref p0, .int p1, .int p2, .int s.1, .int s.2], [.int p1, .int q4], μ)) rfl ?_
      rcases mIte hr with ⟨h9, hr⟩ | ⟨h9, hr⟩
      · refine gBrT (p := ¬ q4 = p1) (y := 182) (is := List.drop 19 mC182) (L := [.ref p0, .int p1, .int p2, .int s.1, .int s.2]) (st := []) (μ := μ) (t := 51) rfl h9 ?_
        exact t182L4_27 μ p0 p1 p2 s.1 s.2 hr hC
      · refine gBrF (p := ¬ q4 = p1) (y := 182) (is := List.drop 19 mC182) (L := [.ref p0, .int p1, .int p2, .int s.1, .int s.2]) (st := []) (μ := μ) (t := 51) rfl h9 ?_
        refine mGo.steps 3 (c' := (182, List.drop 22 mC182, [.ref p0, .int p1, .int p2, .int s.1, .int s.2], [.int 4, .int s.2, .ref p0], μ)) rfl ?_
        obtain ⟨q6, h7, hr⟩ := mBi hr
        refine gCall (z := 148) (n := 2) (f := 0) (kind := 1) (a := p0) (As := [.int s.2, .int 4]) (y := 182) (is := List.drop 23 mC182) (L := [.ref p0, .int p1, .int p2, .int s.1, .int s.2]) (rest := []) (μ := μ) rfl (by decide) (by decide) ⟨rfl, rfl⟩ rfl h1 (Nat.le_of_ble_eq_true rfl) (Nat.le_of_ble_eq_true rfl) (t148 h7) ?_
        refine mGo.steps 1 (c' := (182, List.drop 24 mC182, [.ref p0, .int p1, .int p2, .int s.1, .int s.2], [.int p2, .int q6], μ)) rfl ?_
        rcases mIte hr with ⟨h8, hr⟩ | ⟨h8, hr⟩
        · refine gBrT (p := ¬ q6 = p2) (y := 182) (is := List.drop 25 mC182) (L := [.ref p0, .int p1, .int p2, .int s.1, .int s.2]) (st := []) (μ := μ) (t := 51) rfl h8 ?_
          exact t182L4_27 μ p0 p1 p2 s.1 s.2 hr hC
        · refine gBrF (p := ¬ q6 = p2) (y := 182) (is := List.drop 25 mC182) (L := [.ref p0, .int p1, .int p2, .int s.1, .int s.2]) (st := []) (μ := μ) (t := 51) rfl h8 ?_
          refine mGo.steps 2 (c' := (182, List.drop 28 mC182, [.ref p0, .int p1, .int p2, .int s.1, .int s.2], [.int s.2], μ)) rfl ?_
          exact t182L4_28 μ p0 p1 p2 s.2 s.2 (.int s.1) rfl hr hC
theorem t182L4l (μ : mM) (p0 : Nat) (p1 : Int32) (p2 : Int32) {r : Option Value × mM} (n : Nat) (s : Int32 × Int32) (o : (Int32) ⊕ Int32) (hr : mLoop (s182L4 μ p0 p1 p2) n s = some o) (hC : Sum.elim (fun x : Int32 => ∀ (w0 : Value) (hw0 : mNotL w0 = true) (w1 : Value) (hw1 : mNotL w1 = true) (w2 : Value) (hw2 : mNotL w2 = true) (w4 : Value) (hw4 : mNotL w4 = true), mGo mG (182, List.drop 31 mC182, [w0, w1, w2, .int x, w4], [], μ) r) (fun y : Int32 => r = (some (.int y), μ)) o) : mGo mG (182, List.drop 4 mC182, [.ref p0, .int p1, .int p2, .int s.1, .int s.2], [], μ) r :=
  mLoop_go (Hd := (fun s' : Int32 × Int32 => mGo mG (182, List.drop 4 mC182, [.ref p0, .int p1, .int p2, .int s'.1, .int s'.2], [], μ) r)) (fun s o hb hC => t182L4 μ p0 p1 p2 s o hb hC) n s o hr hC
def s182 (μ : mM) (a0 : Nat) (a1 : Int32) (a2 : Int32) : Option Int32 :=
  (mLoop (s182L4 μ a0 a1 a2) 1000 ((-10), 1)).bind fun o12 => Sum.elim (fun x13 => some x13) (fun y14 => some y14) o12
set_option maxRecDepth 20000 in
theorem t182 {μ : mM} {a0 : Nat} {a1 : Int32} {a2 : Int32} {o : Int32} (hr : s182 μ a0 a1 a2 = some o) : mEv mG 182 [.ref a0, .int a1, .int a2] μ (some (.int o)) (μ) := by
  obtain ⟨r, hC⟩ : ∃ r : Option Value × mM, r = (some (.int o), μ) := ⟨_, rfl⟩
  show mGo mG (182, List.drop 0 mC182, [.ref a0, .int a1, .int a2, .retAddr 0, .retAddr 0], [], μ) (some (.int o), μ)
  rw [← hC]
  unfold s182 at hr
  refine mGo.steps 4 (c' := (182, List.drop 4 mC182, [.ref a0, .int a1, .int a2, .int (-10), .int 1], [], μ)) rfl ?_
  obtain ⟨o12, h15, hr⟩ := mBi hr
  refine t182L4l μ a0 a1 a2 1000 ((-10), 1) o12 h15 ?_ 
  cases o12 with
  | inl x13 =>
    show ∀ (w0 : Value) (hw0 : mNotL w0 = true) (w1 : Value) (hw1 : mNotL w1 = true) (w2 : Value) (hw2 : mNotL w2 = true) (w4 : Value) (hw4 : mNotL w4 = true), mGo mG (182, List.drop 31 mC182, [w0, w1, w2, .int x13, w4], [], μ) r
    intro w0 hw0 w1 hw1 w2 hw2 w4 hw4
    replace hr : (_) = some _ := hr
    refine mGo.steps 1 (c' := (182, List.drop 32 mC182, [w0, w1, w2, .int x13, w4], [.int x13], μ)) rfl ?_
    obtain rfl := Option.some.inj hr
    rw [show r = _ from hC]
    exact gIret rfl
  | inr y14 =>
    obtain rfl := Option.some.inj hr
    exact hC

/-! 183: TunnelFabricModel.present()I -/
def s183L4 (μ : mM) (p0 : Nat) (s : Int32 × Int32) : Option ((Int32 × Int32) ⊕ ((Int32) ⊕ Int32)) :=
  if 8 ≤ s.2 then (some (.inr (.inl s.1))) else (if (mS μ p0).1 = 9 then (s148 μ p0 s.2 0).bind fun q2 => some (.inl (s.1 + q2, s.2 + 1)) else none)
set_option maxRecDepth 20000 in
theorem t183L4 (μ : mM) (p0 : Nat) {r : Option Value × mM} (s : Int32 × Int32) (o : ((Int32 × Int32) ⊕ ((Int32) ⊕ Int32))) (hr : s183L4 μ p0 s = some o) (hC : Sum.elim (fun s' : Int32 × Int32 => mGo mG (183, List.drop 4 mC183, [.ref p0, .int s'.1, .int s'.2], [], μ) r) (Sum.elim (fun x : Int32 => ∀ (w0 : Value) (hw0 : mNotL w0 = true) (w2 : Value) (hw2 : mNotL w2 = true), mGo mG (183, List.drop 16 mC183, [w0, .int x, w2], [], μ) r) (fun y : Int32 => r = (some (.int y), μ))) o) : mGo mG (183, List.drop 4 mC183, [.ref p0, .int s.1, .int s.2], [], μ) r := by
  unfold s183L4 at hr
  refine mGo.steps 2 (c' := (183, List.drop 6 mC183, [.ref p0, .int s.1, .int s.2], [.int 8, .int s.2], μ)) rfl ?_
  rcases mIte hr with ⟨h4, hr⟩ | ⟨h4, hr⟩
  · refine gBrT (p := 8 ≤ s.2) (y := 183) (is := List.drop 7 mC183) (L := [.ref p0, .int s.1, .int s.2]) (st := []) (μ := μ) (t := 25) rfl h4 ?_
    obtain rfl := Option.some.inj hr
    exact hC (.ref p0) rfl (.int s.2) rfl
  · refine gBrF (p := 8 ≤ s.2) (y := 183) (is := List.drop 7 mC183) (L := [.ref p0, .int s.1, .int s.2]) (st := []) (μ := μ) (t := 25) rfl h4 ?_
    refine mGo.steps 4 (c' := (183, List.drop 11 mC183, [.ref p0, .int s.1, .int s.2], [.int 0, .int s.2, .ref p0, .int s.1], μ)) rfl ?_
    obtain ⟨h1, hr⟩ := mIf hr
    obtain ⟨q2, h3, hr⟩ := mBi hr
    refine gCall (z := 148) (n := 2) (f := 0) (kind := 1) (a := p0) (As := [.int s.2, .int 0]) (y := 183) (is := List.drop 12 mC183) (L := [.ref p0, .int s.1, .int s.2]) (rest := [.int s.1]) (μ := μ) rfl (by decide) (by decide) ⟨rfl, rfl⟩ rfl h1 (Nat.le_of_ble_eq_true rfl) (Nat.le_of_ble_eq_true rfl) (t148 h3) ?_
    refine mGo.steps 4 (c' := (183, List.drop 4 mC183, [.ref p0, .int (s.1 + q2), .int (s.2 + 1)], [], μ)) rfl ?_
    obtain rfl := Option.some.inj hr
    exact hC
theorem t183L4l (μ : mM) (p0 : Nat) {r : Option Value × mM} (n : Nat) (s : Int32 × Int32) (o : (Int32) ⊕ Int32) (hr : mLoop (s183L4 μ p0) n s = some o) (hC : Sum.elim (fun x : Int32 => ∀ (w0 : Value) (hw0 : mNotL w0 = true) (w2 : Value) (hw2 : mNotL w2 = true), mGo mG (183, List.drop 16 mC183, [w0, .int x, w2], [], μ) r) (fun y : Int32 => r = (some (.int y), μ)) o) : mGo mG (183, List.drop 4 mC183, [.ref p0, .int s.1, .int s.2], [], μ) r :=
  mLoop_go (Hd := (fun s' : Int32 × Int32 => mGo mG (183, List.drop 4 mC183, [.ref p0, .int s'.1, .int s'.2], [], μ) r)) (fun s o hb hC => t183L4 μ p0 s o hb hC) n s o hr hC
def s183 (μ : mM) (a0 : Nat) : Option Int32 :=
  (mLoop (s183L4 μ a0) 1000 (0, 0)).bind fun o5 => Sum.elim (fun x6 => some x6) (fun y7 => some y7) o5
set_option maxRecDepth 20000 in
theorem t183 {μ : mM} {a0 : Nat} {o : Int32} (hr : s183 μ a0 = some o) : mEv mG 183 [.ref a0] μ (some (.int o)) (μ) := by
  obtain ⟨r, hC⟩ : ∃ r : Option Value × mM, r = (some (.int o), μ) := ⟨_, rfl⟩
  show mGo mG (183, List.drop 0 mC183, [.ref a0, .retAddr 0, .retAddr 0], [], μ) (some (.int o), μ)
  rw [← hC]
  unfold s183 at hr
  refine mGo.steps 4 (c' := (183, List.drop 4 mC183, [.ref a0, .int 0, .int 0], [], μ)) rfl ?_
  obtain ⟨o5, h8, hr⟩ := mBi hr
  refine t183L4l μ a0 1000 (0, 0) o5 h8 ?_ 
  cases o5 with
  | inl x6 =>
    show ∀ (w0 : Value) (hw0 : mNotL w0 = true) (w2 : Value) (hw2 : mNotL w2 = true), mGo mG (183, List.drop 16 mC183, [w0, .int x6, w2], [], μ) r
    intro w0 hw0 w2 hw2
    replace hr : (_) = some _ := hr
    refine mGo.steps 1 (c' := (183, List.drop 17 mC183, [w0, .int x6, w2], [.int x6], μ)) rfl ?_
    obtain rfl := Option.some.inj hr
    rw [show r = _ from hC]
    exact gIret rfl
  | inr y7 =>
    obtain rfl := Option.some.inj hr
    exact hC

/-! 184: TunnelFabricModel.plug(IIII)I -/
def s184_14 (a0 : Nat) (a1 : Int32) (a2 : Int32) (a3 : Int32) (a4 : Int32) (μ : mM) : Option (Int32 × mM) :=
  some ((-1), μ)
set_option maxRecDepth 20000 in
theorem t184_14 (a0 : Nat) (a1 : Int32) (a2 : Int32) (a3 : Int32) (a4 : Int32) (μ : mM) (w0 : Value) (hw0 : mNotL w0 = true) (w1 : Value) (hw1 : mNotL w1 = true) (w2 : Value) (hw2 : mNotL w2 = true) (w3 : Value) (hw3 : mNotL w3 = true) (w4 : Value) (hw4 : mNotL w4 = true) (w5 : Value) (hw5 : mNotL w5 = true) {o : (Int32 × mM)} {r : Option Value × mM} (hr : s184_14 a0 a1 a2 a3 a4 μ = some o) (hC : r = (some (.int o.1), o.2)) : mGo mG (184, List.drop 14 mC184, [w0, w1, w2, w3, w4, w5], [], μ) r := by
  unfold s184_14 at hr
  refine mGo.steps 1 (c' := (184, List.drop 15 mC184, [w0, w1, w2, w3, w4, w5], [.int (-1)], μ)) rfl ?_
  obtain rfl := Option.some.inj hr
  rw [show r = _ from hC]
  exact gIret rfl
def s184L52 (μ : mM) (p0 : Nat) (p1 : Int32) (p2 : Int32) (p3 : Int32) (p4 : Int32) (s : Int32) : Option ((Int32) ⊕ ((Int32) ⊕ (Int32 × mM))) :=
  if (mS μ p0).1 = 9 then (s148 μ p0 s 0).bind fun q21 => if ¬ q21 = 1 then (some (.inr (.inl s))) else (some (.inl (s + 1))) else none
set_option maxRecDepth 20000 in
theorem t184L52 (μ : mM) (p0 : Nat) (p1 : Int32) (p2 : Int32) (p3 : Int32) (p4 : Int32) {r : Option Value × mM} (s : Int32) (o : ((Int32) ⊕ ((Int32) ⊕ (Int32 × mM)))) (hr : s184L52 μ p0 p1 p2 p3 p4 s = some o) (hC : Sum.elim (fun s' : Int32 => mGo mG (184, List.drop 52 mC184, [.ref p0, .int p1, .int p2, .int p3, .int p4, .int s'], [], μ) r) (Sum.elim (fun x : Int32 => mGo mG (184, List.drop 60 mC184, [.ref p0, .int p1, .int p2, .int p3, .int p4, .int x], [], μ) r) (fun y : (Int32 × mM) => r = (some (.int y.1), y.2))) o) : mGo mG (184, List.drop 52 mC184, [.ref p0, .int p1, .int p2, .int p3, .int p4, .int s], [], μ) r := by
  unfold s184L52 at hr
  refine mGo.steps 3 (c' := (184, List.drop 55 mC184, [.ref p0, .int p1, .int p2, .int p3, .int p4, .int s], [.int 0, .int s, .ref p0], μ)) rfl ?_
  obtain ⟨h20, hr⟩ := mIf hr
  obtain ⟨q21, h22, hr⟩ := mBi hr
  refine gCall (z := 148) (n := 2) (f := 0) (kind := 1) (a := p0) (As := [.int s, .int 0]) (y := 184) (is := List.drop 56 mC184) (L := [.ref p0, .int p1, .int p2, .int p3, .int p4, .int s]) (rest := []) (μ := μ) rfl (by decide) (by decide) ⟨rfl, rfl⟩ rfl h20 (Nat.le_of_ble_eq_true rfl) (Nat.le_of_ble_eq_true rfl) (t148 h22) ?_
  refine mGo.steps 1 (c' := (184, List.drop 57 mC184, [.ref p0, .int p1, .int p2, .int p3, .int p4, .int s], [.int 1, .int q21], μ)) rfl ?_
  rcases mIte hr with ⟨h23, hr⟩ | ⟨h23, hr⟩
  · refine gBrT (p := ¬ q21 = 1) (y := 184) (is := List.drop 58 mC184) (L := [.ref p0, .int p1, .int p2, .int p3, .int p4, .int s]) (st := []) (μ := μ) (t := 108) rfl h23 ?_
    obtain rfl := Option.some.inj hr
    exact hC
  · refine gBrF (p := ¬ q21 = 1) (y := 184) (is := List.drop 58 mC184) (L := [.ref p0, .int p1, .int p2, .int p3, .int p4, .int s]) (st := []) (μ := μ) (t := 108) rfl h23 ?_
    refine mGo.steps 2 (c' := (184, List.drop 52 mC184, [.ref p0, .int p1, .int p2, .int p3, .int p4, .int (s + 1)], [], μ)) rfl ?_
    obtain rfl := Option.some.inj hr
    exact hC
theorem t184L52l (μ : mM) (p0 : Nat) (p1 : Int32) (p2 : Int32) (p3 : Int32) (p4 : Int32) {r : Option Value × mM} (n : Nat) (s : Int32) (o : (Int32) ⊕ (Int32 × mM)) (hr : mLoop (s184L52 μ p0 p1 p2 p3 p4) n s = some o) (hC : Sum.elim (fun x : Int32 => mGo mG (184, List.drop 60 mC184, [.ref p0, .int p1, .int p2, .int p3, .int p4, .int x], [], μ) r) (fun y : (Int32 × mM) => r = (some (.int y.1), y.2)) o) : mGo mG (184, List.drop 52 mC184, [.ref p0, .int p1, .int p2, .int p3, .int p4, .int s], [], μ) r :=
  mLoop_go (Hd := (fun s' : Int32 => mGo mG (184, List.drop 52 mC184, [.ref p0, .int p1, .int p2, .int p3, .int p4, .int s'], [], μ) r)) (fun s o hb hC => t184L52 μ p0 p1 p2 p3 p4 s o hb hC) n s o hr hC
def s184 (μ : mM) (a0 : Nat) (a1 : Int32) (a2 : Int32) (a3 : Int32) (a4 : Int32) : Option (Int32 × mM) :=
  if (mS μ a0).1 = 9 then (s150 μ a0 a1).bind fun q2 => if q2 = 0 then (s184_14 a0 a1 a2 a3 a4 μ) else ((s144 μ a3 0 3).bind fun q4 => if q4 = 0 then (s184_14 a0 a1 a2 a3 a4 μ) else ((s144 μ a4 1 3).bind fun q6 => if ¬ q6 = 0 then ((s148 μ a0 a1 1).bind fun q8 => (s146 μ q8).bind fun q10 => (s144 μ a2 0 (q10 - 1)).bind fun q12 => if ¬ q12 = 0 then ((s182 μ a0 a1 a2).bind fun q14 => if q14 = (-10) then ((s152 μ a0 a1).bind fun q16 => if ¬ q16 = 4 then ((s183 μ a0).bind fun q18 => if ¬ q18 = 8 then ((mLoop (s184L52 μ a0 a1 a2 a3 a4) 1000 1).bind fun o24 => Sum.elim (fun x25 => if (mS μ a0).1 = 9 then (s180 μ a0 x25 a1 a2 a3 a4).bind fun q29 => some (x25, q29) else none) (fun y26 => some y26) o24) else (some ((-5), μ))) else (some ((-4), μ))) else (some ((-3), μ))) else (some ((-1), μ))) else (s184_14 a0 a1 a2 a3 a4 μ))) else none
set_option maxRecDepth 20000 in
theorem t184 {μ : mM} {a0 : Nat} {a1 : Int32} {a2 : Int32} {a3 : Int32} {a4 : Int32} {o : (Int32 × mM)} (hr : s184 μ a0 a1 a2 a3 a4 = some o) : mEv mG 184 [.ref a0, .int a1, .int a2, .int a3, .int a4] μ (some (.int o.1)) (o.2) := by
  obtain ⟨r, hC⟩ : ∃ r : Option Value × mM, r = (some (.int o.1), o.2) := ⟨_, rfl⟩
  show mGo mG (184, List.drop 0 mC184, [.ref a0, .int a1, .int a2, .int a3, .int a4, .retAddr 0], [], μ) (some (.int o.1), o.2)
  rw [← hC]
  unfold s184 at hr
  refine mGo.steps 2 (c' := (184, List.drop 2 mC184, [.ref a0, .int a1, .int a2, .int a3, .int a4, .retAddr 0], [.int a1, .ref a0], μ)) rfl ?_
  obtain ⟨h1, hr⟩ := mIf hr
  obtain ⟨q2, h3, hr⟩ := mBi hr
  refine gCall (z := 150) (n := 1) (f := 0) (kind := 1) (a := a0) (As := [.int a1]) (y := 184) (is := List.drop 3 mC184) (L := [.ref a0, .int a1, .int a2, .int a3, .int a4, .retAddr 0]) (rest := []) (μ := μ) rfl (by decide) (by decide) ⟨rfl, rfl⟩ rfl h1 (Nat.le_of_ble_eq_true rfl) (Nat.le_of_ble_eq_true rfl) (t150 h3) ?_
  rcases mIte hr with ⟨h37, hr⟩ | ⟨h37, hr⟩
  · refine gBrT (p := q2 = 0) (y := 184) (is := List.drop 4 mC184) (L := [.ref a0, .int a1, .int a2, .int a3, .int a4, .retAddr 0]) (st := []) (μ := μ) (t := 27) rfl h37 ?_
    exact t184_14 a0 a1 a2 a3 a4 μ (.ref a0) rfl (.int a1) rfl (.int a2) rfl (.int a3) rfl (.int a4) rfl (.retAddr 0) rfl hr hC
  · refine gBrF (p := q2 = 0) (y := 184) (is := List.drop 4 mC184) (L := [.ref a0, .int a1, .int a2, .int a3, .int a4, .retAddr 0]) (st := []) (μ := μ) (t := 27) rfl h37 ?_
    refine mGo.steps 3 (c' := (184, List.drop 7 mC184, [.ref a0, .int a1, .int a2, .int a3, .int a4, .retAddr 0], [.int 3, .int 0, .int a3], μ)) rfl ?_
    obtain ⟨q4, h5, hr⟩ := mBi hr
    refine mGo.call (z := 144) (as := [.int a3, .int 0, .int 3]) (y := 184) (is := List.drop 8 mC184) (L := [.ref a0, .int a1, .int a2, .int a3, .int a4, .retAddr 0]) (st := []) (μ := μ) rfl (t144 h5) ?_
    rcases mIte hr with ⟨h36, hr⟩ | ⟨h36, hr⟩
    · refine gBrT (p := q4 = 0) (y := 184) (is := List.drop 9 mC184) (L := [.ref a0, .int a1, .int a2, .int a3, .int a4, .retAddr 0]) (st := []) (μ := μ) (t := 27) rfl h36 ?_
      exact t184_14 a0 a1 a2 a3 a4 μ (.ref a0) rfl (.int a1) rfl (.int a2) rfl (.int a3) rfl (.int a4) rfl (.retAddr 0) rfl hr hC
    · refine gBrF (p := q4 = 0) (y := 184) (is := List.drop 9 mC184) (L := [.ref a0, .int a1, .int a2, .int a3, .int a4, .retAddr 0]) (st := []) (μ := μ) (t := 27) rfl h36 ?_
      refine mGo.steps 3 (c' := (184, List.drop 12 mC184, [.ref a0, .int a1, .int a2, .int a3, .int a4, .retAddr 0], [.int 3, .int 1, .int a4], μ)) rfl ?_
      obtain ⟨q6, h7, hr⟩ := mBi hr
      refine mGo.call (z := 144) (as := [.int a4, .int 1, .int 3]) (y := 184) (is := List.drop 13 mC184) (L := [.ref a0, .int a1, .int a2, .int a3, .int a4, .retAddr 0]) (st := []) (μ := μ) rfl (t144 h7) ?_
      rcases mIte hr with ⟨h35, hr⟩ | ⟨h35, hr⟩
      · refine gBrT (p := ¬ q6 = 0) (y := 184) (is := List.drop 14 mC184) (L := [.ref a0, .int a1, .int a2, .int a3, .int a4, .retAddr 0]) (st := []) (μ := μ) (t := 29) rfl h35 ?_
        refine mGo.steps 5 (c' := (184, List.drop 21 mC184, [.ref a0, .int a1, .int a2, .int a3, .int a4, .retAddr 0], [.int 1, .int a1, .ref a0, .int 0, .int a2], μ)) rfl ?_
        obtain ⟨q8, h9, hr⟩ := mBi hr
        refine gCall (z := 148) (n := 2) (f := 0) (kind := 1) (a := a0) (As := [.int a1, .int 1]) (y := 184) (is := List.drop 22 mC184) (L := [.ref a0, .int a1, .int a2, .int a3, .int a4, .retAddr 0]) (rest := [.int 0, .int a2]) (μ := μ) rfl (by decide) (by decide) ⟨rfl, rfl⟩ rfl h1 (Nat.le_of_ble_eq_true rfl) (Nat.le_of_ble_eq_true rfl) (t148 h9) ?_
        obtain ⟨q10, h11, hr⟩ := mBi hr
        refine mGo.call (z := 146) (as := [.int q8]) (y := 184) (is := List.drop 23 mC184) (L := [.ref a0, .int a1, .int a2, .int a3, .int a4, .retAddr 0]) (st := [.int 0, .int a2]) (μ := μ) rfl (t146 h11) ?_
        refine mGo.steps 2 (c' := (184, List.drop 25 mC184, [.ref a0, .int a1, .int a2, .int a3, .int a4, .retAddr 0], [.int (q10 - 1), .int 0, .int a2], μ)) rfl ?_
        obtain ⟨q12, h13, hr⟩ := mBi hr
        refine mGo.call (z := 144) (as := [.int a2, .int 0, .int (q10 - 1)]) (y := 184) (is := List.drop 26 mC184) (L := [.ref a0, .int a1, .int a2, .int a3, .int a4, .retAddr 0]) (st := []) (μ := μ) rfl (t144 h13) ?_
        rcases mIte hr with ⟨h34, hr⟩ | ⟨h34, hr⟩
        · refine gBrT (p := ¬ q12 = 0) (y := 184) (is := List.drop 27 mC184) (L := [.ref a0, .int a1, .int a2, .int a3, .int a4, .retAddr 0]) (st := []) (μ := μ) (t := 50) rfl h34 ?_
          refine mGo.steps 3 (c' := (184, List.drop 32 mC184, [.ref a0, .int a1, .int a2, .int a3, .int a4, .retAddr 0], [.int a2, .int a1, .ref a0], μ)) rfl ?_
          obtain ⟨q14, h15, hr⟩ := mBi hr
          refine gCall (z := 182) (n := 2) (f := 0) (kind := 1) (a := a0) (As := [.int a1, .int a2]) (y := 184) (is := List.drop 33 mC184) (L := [.ref a0, .int a1, .int a2, .int a3, .int a4, .retAddr 0]) (rest := []) (μ := μ) rfl (by decide) (by decide) ⟨rfl, rfl⟩ rfl h1 (Nat.le_of_ble_eq_true rfl) (Nat.le_of_ble_eq_true rfl) (t182 h15) ?_
          refine mGo.steps 1 (c' := (184, List.drop 34 mC184, [.ref a0, .int a1, .int a2, .int a3, .int a4, .retAddr 0], [.int (-10), .int q14], μ)) rfl ?_
          rcases mIte hr with ⟨h33, hr⟩ | ⟨h33, hr⟩
          · refine gBrT (p := q14 = (-10)) (y := 184) (is := List.drop 35 mC184) (L := [.ref a0, .int a1, .int a2, .int a3, .int a4, .retAddr 0]) (st := []) (μ := μ) (t := 64) rfl h33 ?_
            refine mGo.steps 2 (c' := (184, List.drop 39 mC184, [.ref a0, .int a1, .int a2, .int a3, .int a4, .retAddr 0], [.int a1, .ref a0], μ)) rfl ?_
            obtain ⟨q16, h17, hr⟩ := mBi hr
            refine gCall (z := 152) (n := 1) (f := 0) (kind := 1) (a := a0) (As := [.int a1]) (y := 184) (is := List.drop 40 mC184) (L := [.ref a0, .int a1, .int a2, .int a3, .int a4, .retAddr 0]) (rest := []) (μ := μ) rfl (by decide) (by decide) ⟨rfl, rfl⟩ rfl h1 (Nat.le_of_ble_eq_true rfl) (Nat.le_of_ble_eq_true rfl) (t152 h17) ?_
            refine mGo.steps 1 (c' := (184, List.drop 41 mC184, [.ref a0, .int a1, .int a2, .int a3, .int a4, .retAddr 0], [.int 4, .int q16], μ)) rfl ?_
            rcases mIte hr with ⟨h32, hr⟩ | ⟨h32, hr⟩
            · refine gBrT (p := ¬ q16 = 4) (y := 184) (is := List.drop 42 mC184) (L := [.ref a0, .int a1, .int a2, .int a3, .int a4, .retAddr 0]) (st := []) (μ := μ) (t := 76) rfl h32 ?_
              refine mGo.steps 1 (c' := (184, List.drop 45 mC184, [.ref a0, .int a1, .int a2, .int a3, .int a4, .retAddr 0], [.ref a0], μ)) rfl ?_
              obtain ⟨q18, h19, hr⟩ := mBi hr
              refine gCall (z := 183) (n := 0) (f := 0) (kind := 1) (a := a0) (As := []) (y := 184) (is := List.drop 46 mC184) (L := [.ref a0, .int a1, .int a2, .int a3, .int a4, .retAddr 0]) (rest := []) (μ := μ) rfl (by decide) (by decide) ⟨rfl, rfl⟩ rfl h1 (Nat.le_of_ble_eq_true rfl) (Nat.le_of_ble_eq_true rfl) (t183 h19) ?_
              refine mGo.steps 1 (c' := (184, List.drop 47 mC184, [.ref a0, .int a1, .int a2, .int a3, .int a4, .retAddr 0], [.int 8, .int q18], μ)) rfl ?_
              rcases mIte hr with ⟨h31, hr⟩ | ⟨h31, hr⟩
              · refine gBrT (p := ¬ q18 = 8) (y := 184) (is := List.drop 48 mC184) (L := [.ref a0, .int a1, .int a2, .int a3, .int a4, .retAddr 0]) (st := []) (μ := μ) (t := 88) rfl h31 ?_
                refine mGo.steps 2 (c' := (184, List.drop 52 mC184, [.ref a0, .int a1, .int a2, .int a3, .int a4, .int 1], [], μ)) rfl ?_
                obtain ⟨o24, h27, hr⟩ := mBi hr
                refine t184L52l μ a0 a1 a2 a3 a4 1000 1 o24 h27 ?_ 
                cases o24 with
                | inl x25 =>
                  show mGo mG (184, List.drop 60 mC184, [.ref a0, .int a1, .int a2, .int a3, .int a4, .int x25], [], μ) r
                  replace hr : (_) = some _ := hr
                  refine mGo.steps 6 (c' := (184, List.drop 66 mC184, [.ref a0, .int a1, .int a2, .int a3, .int a4, .int x25], [.int a4, .int a3, .int a2, .int a1, .int x25, .ref a0], μ)) rfl ?_
                  obtain ⟨h28, hr⟩ := mIf hr
                  obtain ⟨q29, h30, hr⟩ := mBi hr
                  refine gCall (z := 180) (n := 5) (f := 0) (kind := 1) (a := a0) (As := [.int x25, .int a1, .int a2, .int a3, .int a4]) (y := 184) (is := List.drop 67 mC184) (L := [.ref a0, .int a1, .int a2, .int a3, .int a4, .int x25]) (rest := []) (μ := μ) rfl (by decide) (by decide) ⟨rfl, rfl⟩ rfl h28 (Nat.le_of_ble_eq_true rfl) (Nat.le_of_ble_eq_true rfl) (t180 h30) ?_
                  refine mGo.steps 1 (c' := (184, List.drop 68 mC184, [.ref a0, .int a1, .int a2, .int a3, .int a4, .int x25], [.int x25], q29)) rfl ?_
                  obtain rfl := Option.some.inj hr
                  rw [show r = _ from hC]
                  exact gIret rfl
                | inr y26 =>
                  obtain rfl := Option.some.inj hr
                  exact hC
              · refine gBrF (p := ¬ q18 = 8) (y := 184) (is := List.drop 48 mC184) (L := [.ref a0, .int a1, .int a2, .int a3, .int a4, .retAddr 0]) (st := []) (μ := μ) (t := 88) rfl h31 ?_
                refine mGo.steps 1 (c' := (184, List.drop 49 mC184, [.ref a0, .int a1, .int a2, .int a3, .int a4, .retAddr 0], [.int (-5)], μ)) rfl ?_
                obtain rfl := Option.some.inj hr
                rw [show r = _ from hC]
                exact gIret rfl
            · refine gBrF (p := ¬ q16 = 4) (y := 184) (is := List.drop 42 mC184) (L := [.ref a0, .int a1, .int a2, .int a3, .int a4, .retAddr 0]) (st := []) (μ := μ) (t := 76) rfl h32 ?_
              refine mGo.steps 1 (c' := (184, List.drop 43 mC184, [.ref a0, .int a1, .int a2, .int a3, .int a4, .retAddr 0], [.int (-4)], μ)) rfl ?_
              obtain rfl := Option.some.inj hr
              rw [show r = _ from hC]
              exact gIret rfl
          · refine gBrF (p := q14 = (-10)) (y := 184) (is := List.drop 35 mC184) (L := [.ref a0, .int a1, .int a2, .int a3, .int a4, .retAddr 0]) (st := []) (μ := μ) (t := 64) rfl h33 ?_
            refine mGo.steps 1 (c' := (184, List.drop 36 mC184, [.ref a0, .int a1, .int a2, .int a3, .int a4, .retAddr 0], [.int (-3)], μ)) rfl ?_
            obtain rfl := Option.some.inj hr
            rw [show r = _ from hC]
            exact gIret rfl
        · refine gBrF (p := ¬ q12 = 0) (y := 184) (is := List.drop 27 mC184) (L := [.ref a0, .int a1, .int a2, .int a3, .int a4, .retAddr 0]) (st := []) (μ := μ) (t := 50) rfl h34 ?_
          refine mGo.steps 1 (c' := (184, List.drop 28 mC184, [.ref a0, .int a1, .int a2, .int a3, .int a4, .retAddr 0], [.int (-1)], μ)) rfl ?_
          obtain rfl := Option.some.inj hr
          rw [show r = _ from hC]
          exact gIret rfl
      · refine gBrF (p := ¬ q6 = 0) (y := 184) (is := List.drop 14 mC184) (L := [.ref a0, .int a1, .int a2, .int a3, .int a4, .retAddr 0]) (st := []) (μ := μ) (t := 29) rfl h35 ?_
        exact t184_14 a0 a1 a2 a3 a4 μ (.ref a0) rfl (.int a1) rfl (.int a2) rfl (.int a3) rfl (.int a4) rfl (.retAddr 0) rfl hr hC

/-! 185: TunnelFabricModel.below(I)I -/
def s185L4_27 (μ : mM) (p0 : Nat) (p1 : Int32) (v3 : Int32) (t0 : Int32) (t1 : Int32) : Option ((Int32 × Int32) ⊕ ((Int32) ⊕ Int32)) :=
  some (.inl (t1 + t0, v3 + 1))
set_option maxRecDepth 20000 in
theorem t185L4_27 (μ : mM) (p0 : Nat) (p1 : Int32) (v3 : Int32) (t0 : Int32) (t1 : Int32) (w2 : Value) (hw2 : mNotL w2 = true) {o : ((Int32 × Int32) ⊕ ((Int32) ⊕ Int32))} {r : Option Value × mM} (hr : s185L4_27 μ p0 p1 v3 t0 t1 = some o) (hC : Sum.elim (fun s' : Int32 × Int32 => mGo mG (185, List.drop 4 mC185, [.ref p0, .int p1, .int s'.1, .int s'.2], [], μ) r) (Sum.elim (fun x : Int32 => ∀ (w0 : Value) (hw0 : mNotL w0 = true) (w1 : Value) (hw1 : mNotL w1 = true) (w3 : Value) (hw3 : mNotL w3 = true), mGo mG (185, List.drop 31 mC185, [w0, w1, .int x, w3], [], μ) r) (fun y : Int32 => r = (some (.int y), μ))) o) : mGo mG (185, List.drop 27 mC185, [.ref p0, .int p1, w2, .int v3], [.int t0, .int t1], μ) r := by
  unfold s185L4_27 at hr
  refine mGo.steps 4 (c' := (185, List.drop 4 mC185, [.ref p0, .int p1, .int (t1 + t0), .int (v3 + 1)], [], μ)) rfl ?_
  obtain rfl := Option.some.inj hr
  exact hC
def s185L4_26 (μ : mM) (p0 : Nat) (p1 : Int32) (v3 : Int32) (t0 : Int32) : Option ((Int32 × Int32) ⊕ ((Int32) ⊕ Int32)) :=
  s185L4_27 μ p0 p1 v3 0 t0
set_option maxRecDepth 20000 in
theorem t185L4_26 (μ : mM) (p0 : Nat) (p1 : Int32) (v3 : Int32) (t0 : Int32) (w2 : Value) (hw2 : mNotL w2 = true) {o : ((Int32 × Int32) ⊕ ((Int32) ⊕ Int32))} {r : Option Value × mM} (hr : s185L4_26 μ p0 p1 v3 t0 = some o) (hC : Sum.elim (fun s' : Int32 × Int32 => mGo mG (185, List.drop 4 mC185, [.ref p0, .int p1, .int s'.1, .int s'.2], [], μ) r) (Sum.elim (fun x : Int32 => ∀ (w0 : Value) (hw0 : mNotL w0 = true) (w1 : Value) (hw1 : mNotL w1 = true) (w3 : Value) (hw3 : mNotL w3 = true), mGo mG (185, List.drop 31 mC185, [w0, w1, .int x, w3], [], μ) r) (fun y : Int32 => r = (some (.int y), μ))) o) : mGo mG (185, List.drop 26 mC185, [.ref p0, .int p1, w2, .int v3], [.int t0], μ) r := by
  unfold s185L4_26 at hr
  refine mGo.steps 1 (c' := (185, List.drop 27 mC185, [.ref p0, .int p1, w2, .int v3], [.int 0, .int t0], μ)) rfl ?_
  exact t185L4_27 μ p0 p1 v3 0 t0 w2 hw2 hr hC
def s185L4_24 (μ : mM) (p0 : Nat) (p1 : Int32) (v3 : Int32) (t0 : Int32) : Option ((Int32 × Int32) ⊕ ((Int32) ⊕ Int32)) :=
  s185L4_27 μ p0 p1 v3 1 t0
set_option maxRecDepth 20000 in
theorem t185L4_24 (μ : mM) (p0 : Nat) (p1 : Int32) (v3 : Int32) (t0 : Int32) (w2 : Value) (hw2 : mNotL w2 = true) {o : ((Int32 × Int32) ⊕ ((Int32) ⊕ Int32))} {r : Option Value × mM} (hr : s185L4_24 μ p0 p1 v3 t0 = some o) (hC : Sum.elim (fun s' : Int32 × Int32 => mGo mG (185, List.drop 4 mC185, [.ref p0, .int p1, .int s'.1, .int s'.2], [], μ) r) (Sum.elim (fun x : Int32 => ∀ (w0 : Value) (hw0 : mNotL w0 = true) (w1 : Value) (hw1 : mNotL w1 = true) (w3 : Value) (hw3 : mNotL w3 = true), mGo mG (185, List.drop 31 mC185, [w0, w1, .int x, w3], [], μ) r) (fun y : Int32 => r = (some (.int y), μ))) o) : mGo mG (185, List.drop 24 mC185, [.ref p0, .int p1, w2, .int v3], [.int t0], μ) r := by
  unfold s185L4_24 at hr
  refine mGo.steps 2 (c' := (185, List.drop 27 mC185, [.ref p0, .int p1, w2, .int v3], [.int 1, .int t0], μ)) rfl ?_
  exact t185L4_27 μ p0 p1 v3 1 t0 w2 hw2 hr hC
def s185L4 (μ : mM) (p0 : Nat) (p1 : Int32) (s : Int32 × Int32) : Option ((Int32 × Int32) ⊕ ((Int32) ⊕ Int32)) :=
  if 8 ≤ s.2 then (some (.inr (.inl s.1))) else (if s.2 = p1 then (s185L4_26 μ p0 p1 s.2 s.1) else (if (mS μ p0).1 = 9 then (s148 μ p0 s.2 0).bind fun q2 => if ¬ q2 = 1 then (s185L4_26 μ p0 p1 s.2 s.1) else (if p1 = 0 then (s185L4_24 μ p0 p1 s.2 s.1) else ((s153 μ p0 p1 s.2).bind fun q4 => if q4 = 0 then (s185L4_26 μ p0 p1 s.2 s.1) else (s185L4_24 μ p0 p1 s.2 s.1))) else none))
set_option maxRecDepth 20000 in
theorem t185L4 (μ : mM) (p0 : Nat) (p1 : Int32) {r : Option Value × mM} (s : Int32 × Int32) (o : ((Int32 × Int32) ⊕ ((Int32) ⊕ Int32))) (hr : s185L4 μ p0 p1 s = some o) (hC : Sum.elim (fun s' : Int32 × Int32 => mGo mG (185, List.drop 4 mC185, [.ref p0, .int p1, .int s'.1, .int s'.2], [], μ) r) (Sum.elim (fun x : Int32 => ∀ (w0 : Value) (hw0 : mNotL w0 = true) (w1 : Value) (hw1 : mNotL w1 = true) (w3 : Value) (hw3 : mNotL w3 = true), mGo mG (185, List.drop 31 mC185, [w0, w1, .int x, w3], [], μ) r) (fun y : Int32 => r = (some (.int y), μ))) o) : mGo mG (185, List.drop 4 mC185, [.ref p0, .int p1, .int s.1, .int s.2], [], μ) r := by
  unfold s185L4 at hr
  refine mGo.steps 2 (c' := (185, List.drop 6 mC185, [.ref p0, .int p1, .int s.1, .int s.2], [.int 8, .int s.2], μ)) rfl ?_
  rcases mIte hr with ⟨h10, hr⟩ | ⟨h10, hr⟩
  · refine gBrT (p := 8 ≤ s.2) (y := 185) (is := List.drop 7 mC185) (L := [.ref p0, .int p1, .int s.1, .int s.2]) (st := []) (μ := μ) (t := 52) rfl h10 ?_
    obtain rfl := Option.some.inj hr
    exact hC (.ref p0) rfl (.int p1) rfl (.int s.2) rfl
  · refine gBrF (p := 8 ≤ s.2) (y := 185) (is := List.drop 7 mC185) (L := [.ref p0, .int p1, .int s.1, .int s.2]) (st := []) (μ := μ) (t := 52) rfl h10 ?_
    refine mGo.steps 3 (c' := (185, List.drop 10 mC185, [.ref p0, .int p1, .int s.1, .int s.2], [.int p1, .int s.2, .int s.1], μ)) rfl ?_
    rcases mIte hr with ⟨h9, hr⟩ | ⟨h9, hr⟩
    · refine gBrT (p := s.2 = p1) (y := 185) (is := List.drop 11 mC185) (L := [.ref p0, .int p1, .int s.1, .int s.2]) (st := [.int s.1]) (μ := μ) (t := 43) rfl h9 ?_
      exact t185L4_26 μ p0 p1 s.2 s.1 (.int s.1) rfl hr hC
    · refine gBrF (p := s.2 = p1) (y := 185) (is := List.drop 11 mC185) (L := [.ref p0, .int p1, .int s.1, .int s.2]) (st := [.int s.1]) (μ := μ) (t := 43) rfl h9 ?_
      refine mGo.steps 3 (c' := (185, List.drop 14 mC185, [.ref p0, .int p1, .int s.1, .int s.2], [.int 0, .int s.2, .ref p0, .int s.1], μ)) rfl ?_
      obtain ⟨h1, hr⟩ := mIf hr
      obtain ⟨q2, h3, hr⟩ := mBi hr
      refine gCall (z := 148) (n := 2) (f := 0) (kind := 1) (a := p0) (As := [.int s.2, .int 0]) (y := 185) (is := List.drop 15 mC185) (L := [.ref p0, .int p1, .int s.1, .int s.2]) (rest := [.int s.1]) (μ := μ) rfl (by decide) (by decide) ⟨rfl, rfl⟩ rfl h1 (Nat.le_of_ble_eq_true rfl) (Nat.le_of_ble_eq_true rfl) (t148 h3) ?_
      refine mGo.steps 1 (c' := (185, List.drop 16 mC185, [.ref p0, .int p1, .int s.1, .int s.2], [.int 1, .int q2, .int s.1], μ)) rfl ?_
      rcases mIte hr with ⟨h8, hr⟩ | ⟨h8, hr⟩
      · refine gBrT (p := ¬ q2 = 1) (y := 185) (is := List.drop 17 mC185) (L := [.ref p0, .int p1, .int s.1, .int s.2]) (st := [.int s.1]) (μ := μ) (t := 43) rfl h8 ?_
        exact t185L4_26 μ p0 p1 s.2 s.1 (.int s.1) rfl hr hC
      · refine gBrF (p := ¬ q2 = 1) (y := 185) (is := List.drop 17 mC185) (L := [.ref p0, .int p1, .int s.1, .int s.2]) (st := [.int s.1]) (μ := μ) (t := 43) rfl h8 ?_
        refine mGo.steps 1 (c' := (185, List.drop 18 mC185, [.ref p0, .int p1, .int s.1, .int s.2], [.int p1, .int s.1], μ)) rfl ?_
        rcases mIte hr with ⟨h7, hr⟩ | ⟨h7, hr⟩
        · refine gBrT (p := p1 = 0) (y := 185) (is := List.drop 19 mC185) (L := [.ref p0, .int p1, .int s.1, .int s.2]) (st := [.int s.1]) (μ := μ) (t := 39) rfl h7 ?_
          exact t185L4_24 μ p0 p1 s.2 s.1 (.int s.1) rfl hr hC
        · refine gBrF (p := p1 = 0) (y := 185) (is := List.drop 19 mC185) (L := [.ref p0, .int p1, .int s.1, .int s.2]) (st := [.int s.1]) (μ := μ) (t := 39) rfl h7 ?_
          refine mGo.steps 3 (c' := (185, List.drop 22 mC185, [.ref p0, .int p1, .int s.1, .int s.2], [.int s.2, .int p1, .ref p0, .int s.1], μ)) rfl ?_
          obtain ⟨q4, h5, hr⟩ := mBi hr
          refine gCall (z := 153) (n := 2) (f := 0) (kind := 1) (a := p0) (As := [.int p1, .int s.2]) (y := 185) (is := List.drop 23 mC185) (L := [.ref p0, .int p1, .int s.1, .int s.2]) (rest := [.int s.1]) (μ := μ) rfl (by decide) (by decide) ⟨rfl, rfl⟩ rfl h1 (Nat.le_of_ble_eq_true rfl) (Nat.le_of_ble_eq_true rfl) (t153 h5) ?_
          rcases mIte hr with ⟨h6, hr⟩ | ⟨h6, hr⟩
          · refine gBrT (p := q4 = 0) (y := 185) (is := List.drop 24 mC185) (L := [.ref p0, .int p1, .int s.1, .int s.2]) (st := [.int s.1]) (μ := μ) (t := 43) rfl h6 ?_
            exact t185L4_26 μ p0 p1 s.2 s.1 (.int s.1) rfl hr hC
          · refine gBrF (p := q4 = 0) (y := 185) (is := List.drop 24 mC185) (L := [.ref p0, .int p1, .int s.1, .int s.2]) (st := [.int s.1]) (μ := μ) (t := 43) rfl h6 ?_
            exact t185L4_24 μ p0 p1 s.2 s.1 (.int s.1) rfl hr hC
theorem t185L4l (μ : mM) (p0 : Nat) (p1 : Int32) {r : Option Value × mM} (n : Nat) (s : Int32 × Int32) (o : (Int32) ⊕ Int32) (hr : mLoop (s185L4 μ p0 p1) n s = some o) (hC : Sum.elim (fun x : Int32 => ∀ (w0 : Value) (hw0 : mNotL w0 = true) (w1 : Value) (hw1 : mNotL w1 = true) (w3 : Value) (hw3 : mNotL w3 = true), mGo mG (185, List.drop 31 mC185, [w0, w1, .int x, w3], [], μ) r) (fun y : Int32 => r = (some (.int y), μ)) o) : mGo mG (185, List.drop 4 mC185, [.ref p0, .int p1, .int s.1, .int s.2], [], μ) r :=
  mLoop_go (Hd := (fun s' : Int32 × Int32 => mGo mG (185, List.drop 4 mC185, [.ref p0, .int p1, .int s'.1, .int s'.2], [], μ) r)) (fun s o hb hC => t185L4 μ p0 p1 s o hb hC) n s o hr hC
def s185 (μ : mM) (a0 : Nat) (a1 : Int32) : Option Int32 :=
  (mLoop (s185L4 μ a0 a1) 1000 (0, 1)).bind fun o11 => Sum.elim (fun x12 => some x12) (fun y13 => some y13) o11
set_option maxRecDepth 20000 in
theorem t185 {μ : mM} {a0 : Nat} {a1 : Int32} {o : Int32} (hr : s185 μ a0 a1 = some o) : mEv mG 185 [.ref a0, .int a1] μ (some (.int o)) (μ) := by
  obtain ⟨r, hC⟩ : ∃ r : Option Value × mM, r = (some (.int o), μ) := ⟨_, rfl⟩
  show mGo mG (185, List.drop 0 mC185, [.ref a0, .int a1, .retAddr 0, .retAddr 0], [], μ) (some (.int o), μ)
  rw [← hC]
  unfold s185 at hr
  refine mGo.steps 4 (c' := (185, List.drop 4 mC185, [.ref a0, .int a1, .int 0, .int 1], [], μ)) rfl ?_
  obtain ⟨o11, h14, hr⟩ := mBi hr
  refine t185L4l μ a0 a1 1000 (0, 1) o11 h14 ?_ 
  cases o11 with
  | inl x12 =>
    show ∀ (w0 : Value) (hw0 : mNotL w0 = true) (w1 : Value) (hw1 : mNotL w1 = true) (w3 : Value) (hw3 : mNotL w3 = true), mGo mG (185, List.drop 31 mC185, [w0, w1, .int x12, w3], [], μ) r
    intro w0 hw0 w1 hw1 w3 hw3
    replace hr : (_) = some _ := hr
    refine mGo.steps 1 (c' := (185, List.drop 32 mC185, [w0, w1, .int x12, w3], [.int x12], μ)) rfl ?_
    obtain rfl := Option.some.inj hr
    rw [show r = _ from hC]
    exact gIret rfl
  | inr y13 =>
    obtain rfl := Option.some.inj hr
    exact hC

/-! 186: TunnelFabricModel.unplug(I)I -/
def s186L16_36 (μ : mM) (p0 : Nat) (p1 : Int32) (p2 : Int32) (v4 : Int32) (t0 : Int32) (t1 : Int32) : Option ((Int32 × Int32) ⊕ ((Int32) ⊕ (Int32 × mM))) :=
  some (.inl (t1 ||| t0, v4 + 1))
set_option maxRecDepth 20000 in
theorem t186L16_36 (μ : mM) (p0 : Nat) (p1 : Int32) (p2 : Int32) (v4 : Int32) (t0 : Int32) (t1 : Int32) (w3 : Value) (hw3 : mNotL w3 = true) (w5 : Value) (hw5 : mNotL w5 = true) {o : ((Int32 × Int32) ⊕ ((Int32) ⊕ (Int32 × mM)))} {r : Option Value × mM} (hr : s186L16_36 μ p0 p1 p2 v4 t0 t1 = some o) (hC : Sum.elim (fun s' : Int32 × Int32 => ∀ (w5 : Value) (hw5 : mNotL w5 = true), mGo mG (186, List.drop 16 mC186, [.ref p0, .int p1, .int p2, .int s'.1, .int s'.2, w5], [], μ) r) (Sum.elim (fun x : Int32 => ∀ (w4 : Value) (hw4 : mNotL w4 = true) (w5 : Value) (hw5 : mNotL w5 = true), mGo mG (186, List.drop 40 mC186, [.ref p0, .int p1, .int p2, .int x, w4, w5], [], μ) r) (fun y : (Int32 × mM) => r = (some (.int y.1), y.2))) o) : mGo mG (186, List.drop 36 mC186, [.ref p0, .int p1, .int p2, w3, .int v4, w5], [.int t0, .int t1], μ) r := by
  unfold s186L16_36 at hr
  refine mGo.steps 4 (c' := (186, List.drop 16 mC186, [.ref p0, .int p1, .int p2, .int (t1 ||| t0), .int (v4 + 1), w5], [], μ)) rfl ?_
  obtain rfl := Option.some.inj hr
  exact hC w5 hw5
def s186L16_35 (μ : mM) (p0 : Nat) (p1 : Int32) (p2 : Int32) (v4 : Int32) (t0 : Int32) : Option ((Int32 × Int32) ⊕ ((Int32) ⊕ (Int32 × mM))) :=
  s186L16_36 μ p0 p1 p2 v4 0 t0
set_option maxRecDepth 20000 in
theorem t186L16_35 (μ : mM) (p0 : Nat) (p1 : Int32) (p2 : Int32) (v4 : Int32) (t0 : Int32) (w3 : Value) (hw3 : mNotL w3 = true) (w5 : Value) (hw5 : mNotL w5 = true) {o : ((Int32 × Int32) ⊕ ((Int32) ⊕ (Int32 × mM)))} {r : Option Value × mM} (hr : s186L16_35 μ p0 p1 p2 v4 t0 = some o) (hC : Sum.elim (fun s' : Int32 × Int32 => ∀ (w5 : Value) (hw5 : mNotL w5 = true), mGo mG (186, List.drop 16 mC186, [.ref p0, .int p1, .int p2, .int s'.1, .int s'.2, w5], [], μ) r) (Sum.elim (fun x : Int32 => ∀ (w4 : Value) (hw4 : mNotL w4 = true) (w5 : Value) (hw5 : mNotL w5 = true), mGo mG (186, List.drop 40 mC186, [.ref p0, .int p1, .int p2, .int x, w4, w5], [], μ) r) (fun y : (Int32 × mM) => r = (some (.int y.1), y.2))) o) : mGo mG (186, List.drop 35 mC186, [.ref p0, .int p1, .int p2, w3, .int v4, w5], [.int t0], μ) r := by
  unfold s186L16_35 at hr
  refine mGo.steps 1 (c' := (186, List.drop 36 mC186, [.ref p0, .int p1, .int p2, w3, .int v4, w5], [.int 0, .int t0], μ)) rfl ?_
  exact t186L16_36 μ p0 p1 p2 v4 0 t0 w3 hw3 w5 hw5 hr hC
def s186L16 (μ : mM) (p0 : Nat) (p1 : Int32) (p2 : Int32) (s : Int32 × Int32) : Option ((Int32 × Int32) ⊕ ((Int32) ⊕ (Int32 × mM))) :=
  if 8 ≤ s.2 then (some (.inr (.inl s.1))) else (if (mS μ p0).1 = 9 then (s148 μ p0 s.2 0).bind fun q7 => if ¬ q7 = 1 then (s186L16_35 μ p0 p1 p2 s.2 s.1) else ((s153 μ p0 p1 s.2).bind fun q9 => if q9 = 0 then (s186L16_35 μ p0 p1 p2 s.2 s.1) else (s186L16_36 μ p0 p1 p2 s.2 (1 <<< (s.2 &&& 31)) s.1)) else none)
set_option maxRecDepth 20000 in
theorem t186L16 (μ : mM) (p0 : Nat) (p1 : Int32) (p2 : Int32) {r : Option Value × mM} (s : Int32 × Int32) (o : ((Int32 × Int32) ⊕ ((Int32) ⊕ (Int32 × mM)))) (hr : s186L16 μ p0 p1 p2 s = some o) (hC : Sum.elim (fun s' : Int32 × Int32 => ∀ (w5 : Value) (hw5 : mNotL w5 = true), mGo mG (186, List.drop 16 mC186, [.ref p0, .int p1, .int p2, .int s'.1, .int s'.2, w5], [], μ) r) (Sum.elim (fun x : Int32 => ∀ (w4 : Value) (hw4 : mNotL w4 = true) (w5 : Value) (hw5 : mNotL w5 = true), mGo mG (186, List.drop 40 mC186, [.ref p0, .int p1, .int p2, .int x, w4, w5], [], μ) r) (fun y : (Int32 × mM) => r = (some (.int y.1), y.2))) o) : ∀ (w5 : Value) (hw5 : mNotL w5 = true), mGo mG (186, List.drop 16 mC186, [.ref p0, .int p1, .int p2, .int s.1, .int s.2, w5], [], μ) r := by
  intro w5 hw5
  unfold s186L16 at hr
  refine mGo.steps 2 (c' := (186, List.drop 18 mC186, [.ref p0, .int p1, .int p2, .int s.1, .int s.2, w5], [.int 8, .int s.2], μ)) rfl ?_
  rcases mIte hr with ⟨h13, hr⟩ | ⟨h13, hr⟩
  · refine gBrT (p := 8 ≤ s.2) (y := 186) (is := List.drop 19 mC186) (L := [.ref p0, .int p1, .int p2, .int s.1, .int s.2, w5]) (st := []) (μ := μ) (t := 68) rfl h13 ?_
    obtain rfl := Option.some.inj hr
    exact hC (.int s.2) rfl w5 hw5
  · refine gBrF (p := 8 ≤ s.2) (y := 186) (is := List.drop 19 mC186) (L := [.ref p0, .int p1, .int p2, .int s.1, .int s.2, w5]) (st := []) (μ := μ) (t := 68) rfl h13 ?_
    refine mGo.steps 4 (c' := (186, List.drop 23 mC186, [.ref p0, .int p1, .int p2, .int s.1, .int s.2, w5], [.int 0, .int s.2, .ref p0, .int s.1], μ)) rfl ?_
    obtain ⟨h6, hr⟩ := mIf hr
    obtain ⟨q7, h8, hr⟩ := mBi hr
    refine gCall (z := 148) (n := 2) (f := 0) (kind := 1) (a := p0) (As := [.int s.2, .int 0]) (y := 186) (is := List.drop 24 mC186) (L := [.ref p0, .int p1, .int p2, .int s.1, .int s.2, w5]) (rest := [.int s.1]) (μ := μ) rfl (by decide) (by decide) ⟨rfl, rfl⟩ rfl h6 (Nat.le_of_ble_eq_true rfl) (Nat.le_of_ble_eq_true rfl) (t148 h8) ?_
    refine mGo.steps 1 (c' := (186, List.drop 25 mC186, [.ref p0, .int p1, .int p2, .int s.1, .int s.2, w5], [.int 1, .int q7, .int s.1], μ)) rfl ?_
    rcases mIte hr with ⟨h12, hr⟩ | ⟨h12, hr⟩
    · refine gBrT (p := ¬ q7 = 1) (y := 186) (is := List.drop 26 mC186) (L := [.ref p0, .int p1, .int p2, .int s.1, .int s.2, w5]) (st := [.int s.1]) (μ := μ) (t := 59) rfl h12 ?_
      exact t186L16_35 μ p0 p1 p2 s.2 s.1 (.int s.1) rfl w5 hw5 hr hC
    · refine gBrF (p := ¬ q7 = 1) (y := 186) (is := List.drop 26 mC186) (L := [.ref p0, .int p1, .int p2, .int s.1, .int s.2, w5]) (st := [.int s.1]) (μ := μ) (t := 59) rfl h12 ?_
      refine mGo.steps 3 (c' := (186, List.drop 29 mC186, [.ref p0, .int p1, .int p2, .int s.1, .int s.2, w5], [.int s.2, .int p1, .ref p0, .int s.1], μ)) rfl ?_
      obtain ⟨q9, h10, hr⟩ := mBi hr
      refine gCall (z := 153) (n := 2) (f := 0) (kind := 1) (a := p0) (As := [.int p1, .int s.2]) (y := 186) (is := List.drop 30 mC186) (L := [.ref p0, .int p1, .int p2, .int s.1, .int s.2, w5]) (rest := [.int s.1]) (μ := μ) rfl (by decide) (by decide) ⟨rfl, rfl⟩ rfl h6 (Nat.le_of_ble_eq_true rfl) (Nat.le_of_ble_eq_true rfl) (t153 h10) ?_
      rcases mIte hr with ⟨h11, hr⟩ | ⟨h11, hr⟩
      · refine gBrT (p := q9 = 0) (y := 186) (is := List.drop 31 mC186) (L := [.ref p0, .int p1, .int p2, .int s.1, .int s.2, w5]) (st := [.int s.1]) (μ := μ) (t := 59) rfl h11 ?_
        exact t186L16_35 μ p0 p1 p2 s.2 s.1 (.int s.1) rfl w5 hw5 hr hC
      · refine gBrF (p := q9 = 0) (y := 186) (is := List.drop 31 mC186) (L := [.ref p0, .int p1, .int p2, .int s.1, .int s.2, w5]) (st := [.int s.1]) (μ := μ) (t := 59) rfl h11 ?_
        refine mGo.steps 4 (c' := (186, List.drop 36 mC186, [.ref p0, .int p1, .int p2, .int s.1, .int s.2, w5], [.int (1 <<< (s.2 &&& 31)), .int s.1], μ)) rfl ?_
        exact t186L16_36 μ p0 p1 p2 s.2 (1 <<< (s.2 &&& 31)) s.1 (.int s.1) rfl w5 hw5 hr hC
theorem t186L16l (μ : mM) (p0 : Nat) (p1 : Int32) (p2 : Int32) {r : Option Value × mM} (n : Nat) (s : Int32 × Int32) (o : (Int32) ⊕ (Int32 × mM)) (hr : mLoop (s186L16 μ p0 p1 p2) n s = some o) (hC : Sum.elim (fun x : Int32 => ∀ (w4 : Value) (hw4 : mNotL w4 = true) (w5 : Value) (hw5 : mNotL w5 = true), mGo mG (186, List.drop 40 mC186, [.ref p0, .int p1, .int p2, .int x, w4, w5], [], μ) r) (fun y : (Int32 × mM) => r = (some (.int y.1), y.2)) o) : ∀ (w5 : Value) (hw5 : mNotL w5 = true), mGo mG (186, List.drop 16 mC186, [.ref p0, .int p1, .int p2, .int s.1, .int s.2, w5], [], μ) r :=
  mLoop_go (Hd := (fun s' : Int32 × Int32 => ∀ (w5 : Value) (hw5 : mNotL w5 = true), mGo mG (186, List.drop 16 mC186, [.ref p0, .int p1, .int p2, .int s'.1, .int s'.2, w5], [], μ) r)) (fun s o hb hC => t186L16 μ p0 p1 p2 s o hb hC) n s o hr hC
def s186L44_67 (p0 : Nat) (p1 : Int32) (p2 : Int32) (p3 : Int32) (μ : mM) (v5 : Int32) (t0 : Int32) (t1 : Int32) : Option ((Int32 × Int32 × mM) ⊕ ((Int32 × mM) ⊕ (Int32 × mM))) :=
  some (.inl (t1 + t0, v5 + 1, μ))
set_option maxRecDepth 20000 in
theorem t186L44_67 (p0 : Nat) (p1 : Int32) (p2 : Int32) (p3 : Int32) (μ : mM) (v5 : Int32) (t0 : Int32) (t1 : Int32) (w4 : Value) (hw4 : mNotL w4 = true) {o : ((Int32 × Int32 × mM) ⊕ ((Int32 × mM) ⊕ (Int32 × mM)))} {r : Option Value × mM} (hr : s186L44_67 p0 p1 p2 p3 μ v5 t0 t1 = some o) (hC : Sum.elim (fun s' : Int32 × Int32 × mM => mGo mG (186, List.drop 44 mC186, [.ref p0, .int p1, .int p2, .int p3, .int s'.1, .int s'.2.1], [], s'.2.2) r) (Sum.elim (fun x : Int32 × mM => ∀ (w1 : Value) (hw1 : mNotL w1 = true) (w5 : Value) (hw5 : mNotL w5 = true), mGo mG (186, List.drop 71 mC186, [.ref p0, w1, .int p2, .int p3, .int x.1, w5], [], x.2) r) (fun y : (Int32 × mM) => r = (some (.int y.1), y.2))) o) : mGo mG (186, List.drop 67 mC186, [.ref p0, .int p1, .int p2, .int p3, w4, .int v5], [.int t0, .int t1], μ) r := by
  unfold s186L44_67 at hr
  refine mGo.steps 4 (c' := (186, List.drop 44 mC186, [.ref p0, .int p1, .int p2, .int p3, .int (t1 + t0), .int (v5 + 1)], [], μ)) rfl ?_
  obtain rfl := Option.some.inj hr
  exact hC
def s186L44_66 (p0 : Nat) (p1 : Int32) (p2 : Int32) (p3 : Int32) (μ : mM) (v5 : Int32) (t0 : Int32) : Option ((Int32 × Int32 × mM) ⊕ ((Int32 × mM) ⊕ (Int32 × mM))) :=
  s186L44_67 p0 p1 p2 p3 μ v5 0 t0
set_option maxRecDepth 20000 in
theorem t186L44_66 (p0 : Nat) (p1 : Int32) (p2 : Int32) (p3 : Int32) (μ : mM) (v5 : Int32) (t0 : Int32) (w4 : Value) (hw4 : mNotL w4 = true) {o : ((Int32 × Int32 × mM) ⊕ ((Int32 × mM) ⊕ (Int32 × mM)))} {r : Option Value × mM} (hr : s186L44_66 p0 p1 p2 p3 μ v5 t0 = some o) (hC : Sum.elim (fun s' : Int32 × Int32 × mM => mGo mG (186, List.drop 44 mC186, [.ref p0, .int p1, .int p2, .int p3, .int s'.1, .int s'.2.1], [], s'.2.2) r) (Sum.elim (fun x : Int32 × mM => ∀ (w1 : Value) (hw1 : mNotL w1 = true) (w5 : Value) (hw5 : mNotL w5 = true), mGo mG (186, List.drop 71 mC186, [.ref p0, w1, .int p2, .int p3, .int x.1, w5], [], x.2) r) (fun y : (Int32 × mM) => r = (some (.int y.1), y.2))) o) : mGo mG (186, List.drop 66 mC186, [.ref p0, .int p1, .int p2, .int p3, w4, .int v5], [.int t0], μ) r := by
  unfold s186L44_66 at hr
  refine mGo.steps 1 (c' := (186, List.drop 67 mC186, [.ref p0, .int p1, .int p2, .int p3, w4, .int v5], [.int 0, .int t0], μ)) rfl ?_
  exact t186L44_67 p0 p1 p2 p3 μ v5 0 t0 w4 hw4 hr hC
def s186L44 (p0 : Nat) (p1 : Int32) (p2 : Int32) (p3 : Int32) (s : Int32 × Int32 × mM) : Option ((Int32 × Int32 × mM) ⊕ ((Int32 × mM) ⊕ (Int32 × mM))) :=
  if 10 ≤ s.2.1 then (some (.inr (.inl (s.1, s.2.2)))) else (if (mS s.2.2 p0).1 = 9 then (s159 s.2.2 p0 s.2.1 0).bind fun q19 => if ¬ q19 = 1 then (s186L44_66 p0 p1 p2 p3 s.2.2 s.2.1 s.1) else ((s159 s.2.2 p0 s.2.1 2).bind fun q21 => (s153 s.2.2 p0 p1 q21).bind fun q23 => if q23 = 0 then (s186L44_66 p0 p1 p2 p3 s.2.2 s.2.1 s.1) else ((s172 s.2.2 p0 s.2.1).bind fun q25 => s186L44_67 p0 p1 p2 p3 q25.2 s.2.1 q25.1 s.1)) else none)
set_option maxRecDepth 20000 in
theorem t186L44 (p0 : Nat) (p1 : Int32) (p2 : Int32) (p3 : Int32) {r : Option Value × mM} (s : Int32 × Int32 × mM) (o : ((Int32 × Int32 × mM) ⊕ ((Int32 × mM) ⊕ (Int32 × mM)))) (hr : s186L44 p0 p1 p2 p3 s = some o) (hC : Sum.elim (fun s' : Int32 × Int32 × mM => mGo mG (186, List.drop 44 mC186, [.ref p0, .int p1, .int p2, .int p3, .int s'.1, .int s'.2.1], [], s'.2.2) r) (Sum.elim (fun x : Int32 × mM => ∀ (w1 : Value) (hw1 : mNotL w1 = true) (w5 : Value) (hw5 : mNotL w5 = true), mGo mG (186, List.drop 71 mC186, [.ref p0, w1, .int p2, .int p3, .int x.1, w5], [], x.2) r) (fun y : (Int32 × mM) => r = (some (.int y.1), y.2))) o) : mGo mG (186, List.drop 44 mC186, [.ref p0, .int p1, .int p2, .int p3, .int s.1, .int s.2.1], [], s.2.2) r := by
  unfold s186L44 at hr
  refine mGo.steps 2 (c' := (186, List.drop 46 mC186, [.ref p0, .int p1, .int p2, .int p3, .int s.1, .int s.2.1], [.int 10, .int s.2.1], s.2.2)) rfl ?_
  rcases mIte hr with ⟨h29, hr⟩ | ⟨h29, hr⟩
  · refine gBrT (p := 10 ≤ s.2.1) (y := 186) (is := List.drop 47 mC186) (L := [.ref p0, .int p1, .int p2, .int p3, .int s.1, .int s.2.1]) (st := []) (μ := s.2.2) (t := 128) rfl h29 ?_
    obtain rfl := Option.some.inj hr
    exact hC (.int p1) rfl (.int s.2.1) rfl
  · refine gBrF (p := 10 ≤ s.2.1) (y := 186) (is := List.drop 47 mC186) (L := [.ref p0, .int p1, .int p2, .int p3, .int s.1, .int s.2.1]) (st := []) (μ := s.2.2) (t := 128) rfl h29 ?_
    refine mGo.steps 4 (c' := (186, List.drop 51 mC186, [.ref p0, .int p1, .int p2, .int p3, .int s.1, .int s.2.1], [.int 0, .int s.2.1, .ref p0, .int s.1], s.2.2)) rfl ?_
    obtain ⟨h18, hr⟩ := mIf hr
    obtain ⟨q19, h20, hr⟩ := mBi hr
    refine gCall (z := 159) (n := 2) (f := 0) (kind := 1) (a := p0) (As := [.int s.2.1, .int 0]) (y := 186) (is := List.drop 52 mC186) (L := [.ref p0, .int p1, .int p2, .int p3, .int s.1, .int s.2.1]) (rest := [.int s.1]) (μ := s.2.2) rfl (by decide) (by decide) ⟨rfl, rfl⟩ rfl h18 (Nat.le_of_ble_eq_true rfl) (Nat.le_of_ble_eq_true rfl) (t159 h20) ?_
    refine mGo.steps 1 (c' := (186, List.drop 53 mC186, [.ref p0, .int p1, .int p2, .int p3, .int s.1, .int s.2.1], [.int 1, .int q19, .int s.1], s.2.2)) rfl ?_
    rcases mIte hr with ⟨h28, hr⟩ | ⟨h28, hr⟩
    · refine gBrT (p := ¬ q19 = 1) (y := 186) (is := List.drop 54 mC186) (L := [.ref p0, .int p1, .int p2, .int p3, .int s.1, .int s.2.1]) (st := [.int s.1]) (μ := s.2.2) (t := 118) rfl h28 ?_
      exact t186L44_66 p0 p1 p2 p3 s.2.2 s.2.1 s.1 (.int s.1) rfl hr hC
    · refine gBrF (p := ¬ q19 = 1) (y := 186) (is := List.drop 54 mC186) (L := [.ref p0, .int p1, .int p2, .int p3, .int s.1, .int s.2.1]) (st := [.int s.1]) (μ := s.2.2) (t := 118) rfl h28 ?_
      refine mGo.steps 5 (c' := (186, List.drop 59 mC186, [.ref p0, .int p1, .int p2, .int p3, .int s.1, .int s.2.1], [.int 2, .int s.2.1, .ref p0, .int p1, .ref p0, .int s.1], s.2.2)) rfl ?_
      obtain ⟨q21, h22, hr⟩ := mBi hr
      refine gCall (z := 159) (n := 2) (f := 0) (kind := 1) (a := p0) (As := [.int s.2.1, .int 2]) (y := 186) (is := List.drop 60 mC186) (L := [.ref p0, .int p1, .int p2, .int p3, .int s.1, .int s.2.1]) (rest := [.int p1, .ref p0, .int s.1]) (μ := s.2.2) rfl (by decide) (by decide) ⟨rfl, rfl⟩ rfl h18 (Nat.le_of_ble_eq_true rfl) (Nat.le_of_ble_eq_true rfl) (t159 h22) ?_
      obtain ⟨q23, h24, hr⟩ := mBi hr
      refine gCall (z := 153) (n := 2) (f := 0) (kind := 1) (a := p0) (As := [.int p1, .int q21]) (y := 186) (is := List.drop 61 mC186) (L := [.ref p0, .int p1, .int p2, .int p3, .int s.1, .int s.2.1]) (rest := [.int s.1]) (μ := s.2.2) rfl (by decide) (by decide) ⟨rfl, rfl⟩ rfl h18 (Nat.le_of_ble_eq_true rfl) (Nat.le_of_ble_eq_true rfl) (t153 h24) ?_
      rcases mIte hr with ⟨h27, hr⟩ | ⟨h27, hr⟩
      · refine gBrT (p := q23 = 0) (y := 186) (is := List.drop 62 mC186) (L := [.ref p0, .int p1, .int p2, .int p3, .int s.1, .int s.2.1]) (st := [.int s.1]) (μ := s.2.2) (t := 118) rfl h27 ?_
        exact t186L44_66 p0 p1 p2 p3 s.2.2 s.2.1 s.1 (.int s.1) rfl hr hC
      · refine gBrF (p := q23 = 0) (y := 186) (is := List.drop 62 mC186) (L := [.ref p0, .int p1, .int p2, .int p3, .int s.1, .int s.2.1]) (st := [.int s.1]) (μ := s.2.2) (t := 118) rfl h27 ?_
        refine mGo.steps 2 (c' := (186, List.drop 64 mC186, [.ref p0, .int p1, .int p2, .int p3, .int s.1, .int s.2.1], [.int s.2.1, .ref p0, .int s.1], s.2.2)) rfl ?_
        obtain ⟨q25, h26, hr⟩ := mBi hr
        refine gCall (z := 172) (n := 1) (f := 0) (kind := 1) (a := p0) (As := [.int s.2.1]) (y := 186) (is := List.drop 65 mC186) (L := [.ref p0, .int p1, .int p2, .int p3, .int s.1, .int s.2.1]) (rest := [.int s.1]) (μ := s.2.2) rfl (by decide) (by decide) ⟨rfl, rfl⟩ rfl h18 (Nat.le_of_ble_eq_true rfl) (Nat.le_of_ble_eq_true rfl) (t172 h26) ?_
        refine mGo.steps 1 (c' := (186, List.drop 67 mC186, [.ref p0, .int p1, .int p2, .int p3, .int s.1, .int s.2.1], [.int q25.1, .int s.1], q25.2)) rfl ?_
        exact t186L44_67 p0 p1 p2 p3 q25.2 s.2.1 q25.1 s.1 (.int s.1) rfl hr hC
theorem t186L44l (p0 : Nat) (p1 : Int32) (p2 : Int32) (p3 : Int32) {r : Option Value × mM} (n : Nat) (s : Int32 × Int32 × mM) (o : (Int32 × mM) ⊕ (Int32 × mM)) (hr : mLoop (s186L44 p0 p1 p2 p3) n s = some o) (hC : Sum.elim (fun x : Int32 × mM => ∀ (w1 : Value) (hw1 : mNotL w1 = true) (w5 : Value) (hw5 : mNotL w5 = true), mGo mG (186, List.drop 71 mC186, [.ref p0, w1, .int p2, .int p3, .int x.1, w5], [], x.2) r) (fun y : (Int32 × mM) => r = (some (.int y.1), y.2)) o) : mGo mG (186, List.drop 44 mC186, [.ref p0, .int p1, .int p2, .int p3, .int s.1, .int s.2.1], [], s.2.2) r :=
  mLoop_go (Hd := (fun s' : Int32 × Int32 × mM => mGo mG (186, List.drop 44 mC186, [.ref p0, .int p1, .int p2, .int p3, .int s'.1, .int s'.2.1], [], s'.2.2) r)) (fun s o hb hC => t186L44 p0 p1 p2 p3 s o hb hC) n s o hr hC
def s186L73_88 (p0 : Nat) (p2 : Int32) (p3 : Int32) (p4 : Int32) (μ : mM) (v5 : Int32) : Option ((Int32 × mM) ⊕ ((mM) ⊕ (Int32 × mM))) :=
  some (.inl (v5 + 1, μ))
set_option maxRecDepth 20000 in
theorem t186L73_88 (p0 : Nat) (p2 : Int32) (p3 : Int32) (p4 : Int32) (μ : mM) (v5 : Int32) (w1 : Value) (hw1 : mNotL w1 = true) {o : ((Int32 × mM) ⊕ ((mM) ⊕ (Int32 × mM)))} {r : Option Value × mM} (hr : s186L73_88 p0 p2 p3 p4 μ v5 = some o) (hC : Sum.elim (fun s' : Int32 × mM => ∀ (w1 : Value) (hw1 : mNotL w1 = true), mGo mG (186, List.drop 73 mC186, [.ref p0, w1, .int p2, .int p3, .int p4, .int s'.1], [], s'.2) r) (Sum.elim (fun x : mM => ∀ (w1 : Value) (hw1 : mNotL w1 = true) (w3 : Value) (hw3 : mNotL w3 = true) (w5 : Value) (hw5 : mNotL w5 = true), mGo mG (186, List.drop 90 mC186, [.ref p0, w1, .int p2, w3, .int p4, w5], [], x) r) (fun y : (Int32 × mM) => r = (some (.int y.1), y.2))) o) : mGo mG (186, List.drop 88 mC186, [.ref p0, w1, .int p2, .int p3, .int p4, .int v5], [], μ) r := by
  unfold s186L73_88 at hr
  refine mGo.steps 2 (c' := (186, List.drop 73 mC186, [.ref p0, w1, .int p2, .int p3, .int p4, .int (v5 + 1)], [], μ)) rfl ?_
  obtain rfl := Option.some.inj hr
  exact hC w1 hw1
def s186L73 (p0 : Nat) (p2 : Int32) (p3 : Int32) (p4 : Int32) (s : Int32 × mM) : Option ((Int32 × mM) ⊕ ((mM) ⊕ (Int32 × mM))) :=
  if 8 ≤ s.1 then (some (.inr (.inl s.2))) else (if ¬ ((p3 >>> (s.1 &&& 31)) &&& 1) = 1 then (s186L73_88 p0 p2 p3 p4 s.2 s.1) else (if (mS s.2 p0).1 = 9 then (s149 s.2 p0 s.1 0 0).bind fun q35 => s186L73_88 p0 p2 p3 p4 q35 s.1 else none))
set_option maxRecDepth 20000 in
theorem t186L73 (p0 : Nat) (p2 : Int32) (p3 : Int32) (p4 : Int32) {r : Option Value × mM} (s : Int32 × mM) (o : ((Int32 × mM) ⊕ ((mM) ⊕ (Int32 × mM)))) (hr : s186L73 p0 p2 p3 p4 s = some o) (hC : Sum.elim (fun s' : Int32 × mM => ∀ (w1 : Value) (hw1 : mNotL w1 = true), mGo mG (186, List.drop 73 mC186, [.ref p0, w1, .int p2, .int p3, .int p4, .int s'.1], [], s'.2) r) (Sum.elim (fun x : mM => ∀ (w1 : Value) (hw1 : mNotL w1 = true) (w3 : Value) (hw3 : mNotL w3 = true) (w5 : Value) (hw5 : mNotL w5 = true), mGo mG (186, List.drop 90 mC186, [.ref p0, w1, .int p2, w3, .int p4, w5], [], x) r) (fun y : (Int32 × mM) => r = (some (.int y.1), y.2))) o) : ∀ (w1 : Value) (hw1 : mNotL w1 = true), mGo mG (186, List.drop 73 mC186, [.ref p0, w1, .int p2, .int p3, .int p4, .int s.1], [], s.2) r := by
  intro w1 hw1
  unfold s186L73 at hr
  refine mGo.steps 2 (c' := (186, List.drop 75 mC186, [.ref p0, w1, .int p2, .int p3, .int p4, .int s.1], [.int 8, .int s.1], s.2)) rfl ?_
  rcases mIte hr with ⟨h38, hr⟩ | ⟨h38, hr⟩
  · refine gBrT (p := 8 ≤ s.1) (y := 186) (is := List.drop 76 mC186) (L := [.ref p0, w1, .int p2, .int p3, .int p4, .int s.1]) (st := []) (μ := s.2) (t := 162) rfl h38 ?_
    obtain rfl := Option.some.inj hr
    exact hC w1 hw1 (.int p3) rfl (.int s.1) rfl
  · refine gBrF (p := 8 ≤ s.1) (y := 186) (is := List.drop 76 mC186) (L := [.ref p0, w1, .int p2, .int p3, .int p4, .int s.1]) (st := []) (μ := s.2) (t := 162) rfl h38 ?_
    refine mGo.steps 6 (c' := (186, List.drop 82 mC186, [.ref p0, w1, .int p2, .int p3, .int p4, .int s.1], [.int 1, .int ((p3 >>> (s.1 &&& 31)) &&& 1)], s.2)) rfl ?_
    rcases mIte hr with ⟨h37, hr⟩ | ⟨h37, hr⟩
    · refine gBrT (p := ¬ ((p3 >>> (s.1 &&& 31)) &&& 1) = 1) (y := 186) (is := List.drop 83 mC186) (L := [.ref p0, w1, .int p2, .int p3, .int p4, .int s.1]) (st := []) (μ := s.2) (t := 156) rfl h37 ?_
      exact t186L73_88 p0 p2 p3 p4 s.2 s.1 w1 hw1 hr hC
    · refine gBrF (p := ¬ ((p3 >>> (s.1 &&& 31)) &&& 1) = 1) (y := 186) (is := List.drop 83 mC186) (L := [.ref p0, w1, .int p2, .int p3, .int p4, .int s.1]) (st := []) (μ := s.2) (t := 156) rfl h37 ?_
      refine mGo.steps 4 (c' := (186, List.drop 87 mC186, [.ref p0, w1, .int p2, .int p3, .int p4, .int s.1], [.int 0, .int 0, .int s.1, .ref p0], s.2)) rfl ?_
      obtain ⟨h34, hr⟩ := mIf hr
      obtain ⟨q35, h36, hr⟩ := mBi hr
      refine gCall (z := 149) (n := 3) (f := 0) (kind := 1) (a := p0) (As := [.int s.1, .int 0, .int 0]) (y := 186) (is := List.drop 88 mC186) (L := [.ref p0, w1, .int p2, .int p3, .int p4, .int s.1]) (rest := []) (μ := s.2) rfl (by decide) (by decide) ⟨rfl, rfl⟩ rfl h34 (Nat.le_of_ble_eq_true rfl) (Nat.le_of_ble_eq_true rfl) (t149 h36) ?_
      exact t186L73_88 p0 p2 p3 p4 q35 s.1 w1 hw1 hr hC
theorem t186L73l (p0 : Nat) (p2 : Int32) (p3 : Int32) (p4 : Int32) {r : Option Value × mM} (n : Nat) (s : Int32 × mM) (o : (mM) ⊕ (Int32 × mM)) (hr : mLoop (s186L73 p0 p2 p3 p4) n s = some o) (hC : Sum.elim (fun x : mM => ∀ (w1 : Value) (hw1 : mNotL w1 = true) (w3 : Value) (hw3 : mNotL w3 = true) (w5 : Value) (hw5 : mNotL w5 = true), mGo mG (186, List.drop 90 mC186, [.ref p0, w1, .int p2, w3, .int p4, w5], [], x) r) (fun y : (Int32 × mM) => r = (some (.int y.1), y.2)) o) : ∀ (w1 : Value) (hw1 : mNotL w1 = true), mGo mG (186, List.drop 73 mC186, [.ref p0, w1, .int p2, .int p3, .int p4, .int s.1], [], s.2) r :=
  mLoop_go (Hd := (fun s' : Int32 × mM => ∀ (w1 : Value) (hw1 : mNotL w1 = true), mGo mG (186, List.drop 73 mC186, [.ref p0, w1, .int p2, .int p3, .int p4, .int s'.1], [], s'.2) r)) (fun s o hb hC => t186L73 p0 p2 p3 p4 s o hb hC) n s o hr hC
def s186_97 (a0 : Nat) (a1 : Int32) (μ : mM) (t0 : Int32) : Option (Int32 × mM) :=
  some (t0, μ)
set_option maxRecDepth 20000 in
theorem t186_97 (a0 : Nat) (a1 : Int32) (μ : mM) (t0 : Int32) (w0 : Value) (hw0 : mNotL w0 = true) (w1 : Value) (hw1 : mNotL w1 = true) (w2 : Value) (hw2 : mNotL w2 = true) (w3 : Value) (hw3 : mNotL w3 = true) (w4 : Value) (hw4 : mNotL w4 = true) (w5 : Value) (hw5 : mNotL w5 = true) {o : (Int32 × mM)} {r : Option Value × mM} (hr : s186_97 a0 a1 μ t0 = some o) (hC : r = (some (.int o.1), o.2)) : mGo mG (186, List.drop 97 mC186, [w0, w1, w2, w3, w4, w5], [.int t0], μ) r := by
  unfold s186_97 at hr
  obtain rfl := Option.some.inj hr
  rw [show r = _ from hC]
  exact gIret rfl
def s186 (μ : mM) (a0 : Nat) (a1 : Int32) : Option (Int32 × mM) :=
  if (mS μ a0).1 = 9 then (s151 μ a0 a1).bind fun q2 => if ¬ q2 = 0 then ((s185 μ a0 a1).bind fun q4 => (mLoop (s186L16 μ a0 a1 (1 + q4)) 1000 (0, 1)).bind fun o14 => Sum.elim (fun x15 => (mLoop (s186L44 a0 a1 (1 + q4) x15) 1000 (0, 0, μ)).bind fun o30 => Sum.elim (fun x31 => (mLoop (s186L73 a0 (1 + q4) x15 x31.1) 1000 (1, x31.2)).bind fun o39 => Sum.elim (fun x40 => if (mS x40 a0).1 = 9 then (s171 x40 a0).bind fun q44 => if 0 ≤ x31.1 then (s186_97 a0 a1 q44 (1 + q4)) else (s186_97 a0 a1 q44 (-1)) else none) (fun y41 => some y41) o39) (fun y32 => some y32) o30) (fun y16 => some y16) o14) else (some ((-1), μ)) else none
set_option maxRecDepth 20000 in
theorem t186 {μ : mM} {a0 : Nat} {a1 : Int32} {o : (Int32 × mM)} (hr : s186 μ a0 a1 = some o) : mEv mG 186 [.ref a0, .int a1] μ (some (.int o.1)) (o.2) := by
  obtain ⟨r, hC⟩ : ∃ r : Option Value × mM, r = (some (.int o.1), o.2) := ⟨_, rfl⟩
  show mGo mG (186, List.drop 0 mC186, [.ref a0, .int a1, .retAddr 0, .retAddr 0, .retAddr 0, .retAddr 0], [], μ) (some (.int o.1), o.2)
  rw [← hC]
  unfold s186 at hr
  refine mGo.steps 2 (c' := (186, List.drop 2 mC186, [.ref a0, .int a1, .retAddr 0, .retAddr 0, .retAddr 0, .retAddr 0], [.int a1, .ref a0], μ)) rfl ?_
  obtain ⟨h1, hr⟩ := mIf hr
  obtain ⟨q2, h3, hr⟩ := mBi hr
  refine gCall (z := 151) (n := 1) (f := 0) (kind := 1) (a := a0) (As := [.int a1]) (y := 186) (is := List.drop 3 mC186) (L := [.ref a0, .int a1, .retAddr 0, .retAddr 0, .retAddr 0, .retAddr 0]) (rest := []) (μ := μ) rfl (by decide) (by decide) ⟨rfl, rfl⟩ rfl h1 (Nat.le_of_ble_eq_true rfl) (Nat.le_of_ble_eq_true rfl) (t151 h3) ?_
  rcases mIte hr with ⟨h47, hr⟩ | ⟨h47, hr⟩
  · refine gBrT (p := ¬ q2 = 0) (y := 186) (is := List.drop 4 mC186) (L := [.ref a0, .int a1, .retAddr 0, .retAddr 0, .retAddr 0, .retAddr 0]) (st := []) (μ := μ) (t := 10) rfl h47 ?_
    refine mGo.steps 3 (c' := (186, List.drop 9 mC186, [.ref a0, .int a1, .retAddr 0, .retAddr 0, .retAddr 0, .retAddr 0], [.int a1, .ref a0, .int 1], μ)) rfl ?_
    obtain ⟨q4, h5, hr⟩ := mBi hr
    refine gCall (z := 185) (n := 1) (f := 0) (kind := 1) (a := a0) (As := [.int a1]) (y := 186) (is := List.drop 10 mC186) (L := [.ref a0, .int a1, .retAddr 0, .retAddr 0, .retAddr 0, .retAddr 0]) (rest := [.int 1]) (μ := μ) rfl (by decide) (by decide) ⟨rfl, rfl⟩ rfl h1 (Nat.le_of_ble_eq_true rfl) (Nat.le_of_ble_eq_true rfl) (t185 h5) ?_
    refine mGo.steps 6 (c' := (186, List.drop 16 mC186, [.ref a0, .int a1, .int (1 + q4), .int 0, .int 1, .retAddr 0], [], μ)) rfl ?_
    obtain ⟨o14, h17, hr⟩ := mBi hr
    refine t186L16l μ a0 a1 (1 + q4) 1000 (0, 1) o14 h17 ?_ (.retAddr 0) rfl
    cases o14 with
    | inl x15 =>
      show ∀ (w4 : Value) (hw4 : mNotL w4 = true) (w5 : Value) (hw5 : mNotL w5 = true), mGo mG (186, List.drop 40 mC186, [.ref a0, .int a1, .int (1 + q4), .int x15, w4, w5], [], μ) r
      intro w4 hw4 w5 hw5
      replace hr : (_) = some _ := hr
      refine mGo.steps 4 (c' := (186, List.drop 44 mC186, [.ref a0, .int a1, .int (1 + q4), .int x15, .int 0, .int 0], [], μ)) rfl ?_
      obtain ⟨o30, h33, hr⟩ := mBi hr
      refine t186L44l a0 a1 (1 + q4) x15 1000 (0, 0, μ) o30 h33 ?_ 
      cases o30 with
      | inl x31 =>
        show ∀ (w1 : Value) (hw1 : mNotL w1 = true) (w5 : Value) (hw5 : mNotL w5 = true), mGo mG (186, List.drop 71 mC186, [.ref a0, w1, .int (1 + q4), .int x15, .int x31.1, w5], [], x31.2) r
        intro w1 hw1 w5 hw5
        replace hr : (_) = some _ := hr
        refine mGo.steps 2 (c' := (186, List.drop 73 mC186, [.ref a0, w1, .int (1 + q4), .int x15, .int x31.1, .int 1], [], x31.2)) rfl ?_
        obtain ⟨o39, h42, hr⟩ := mBi hr
        refine t186L73l a0 (1 + q4) x15 x31.1 1000 (1, x31.2) o39 h42 ?_ w1 hw1
        cases o39 with
        | inl x40 =>
          show ∀ (w1 : Value) (hw1 : mNotL w1 = true) (w3 : Value) (hw3 : mNotL w3 = true) (w5 : Value) (hw5 : mNotL w5 = true), mGo mG (186, List.drop 90 mC186, [.ref a0, w1, .int (1 + q4), w3, .int x31.1, w5], [], x40) r
          intro w1 hw1 w3 hw3 w5 hw5
          replace hr : (_) = some _ := hr
          refine mGo.steps 1 (c' := (186, List.drop 91 mC186, [.ref a0, w1, .int (1 + q4), w3, .int x31.1, w5], [.ref a0], x40)) rfl ?_
          obtain ⟨h43, hr⟩ := mIf hr
          obtain ⟨q44, h45, hr⟩ := mBi hr
          refine gCall (z := 171) (n := 0) (f := 0) (kind := 1) (a := a0) (As := []) (y := 186) (is := List.drop 92 mC186) (L := [.ref a0, w1, .int (1 + q4), w3, .int x31.1, w5]) (rest := []) (μ := x40) rfl (by decide) (by decide) ⟨rfl, rfl⟩ rfl h43 (Nat.le_of_ble_eq_true rfl) (Nat.le_of_ble_eq_true rfl) (t171 h45) ?_
          refine mGo.steps 1 (c' := (186, List.drop 93 mC186, [.ref a0, w1, .int (1 + q4), w3, .int x31.1, w5], [.int x31.1], q44)) rfl ?_
          rcases mIte hr with ⟨h46, hr⟩ | ⟨h46, hr⟩
          · refine gBrT (p := 0 ≤ x31.1) (y := 186) (is := List.drop 94 mC186) (L := [.ref a0, w1, .int (1 + q4), w3, .int x31.1, w5]) (st := []) (μ := q44) (t := 175) rfl h46 ?_
            refine mGo.steps 1 (c' := (186, List.drop 97 mC186, [.ref a0, w1, .int (1 + q4), w3, .int x31.1, w5], [.int (1 + q4)], q44)) rfl ?_
            exact t186_97 a0 a1 q44 (1 + q4) (.ref a0) rfl w1 hw1 (.int (1 + q4)) rfl w3 hw3 (.int x31.1) rfl w5 hw5 hr hC
          · refine gBrF (p := 0 ≤ x31.1) (y := 186) (is := List.drop 94 mC186) (L := [.ref a0, w1, .int (1 + q4), w3, .int x31.1, w5]) (st := []) (μ := q44) (t := 175) rfl h46 ?_
            refine mGo.steps 2 (c' := (186, List.drop 97 mC186, [.ref a0, w1, .int (1 + q4), w3, .int x31.1, w5], [.int (-1)], q44)) rfl ?_
            exact t186_97 a0 a1 q44 (-1) (.ref a0) rfl w1 hw1 (.int (1 + q4)) rfl w3 hw3 (.int x31.1) rfl w5 hw5 hr hC
        | inr y41 =>
          obtain rfl := Option.some.inj hr
          exact hC
      | inr y32 =>
        obtain rfl := Option.some.inj hr
        exact hC
    | inr y16 =>
      obtain rfl := Option.some.inj hr
      exact hC
  · refine gBrF (p := ¬ q2 = 0) (y := 186) (is := List.drop 4 mC186) (L := [.ref a0, .int a1, .retAddr 0, .retAddr 0, .retAddr 0, .retAddr 0]) (st := []) (μ := μ) (t := 10) rfl h47 ?_
    refine mGo.steps 1 (c' := (186, List.drop 5 mC186, [.ref a0, .int a1, .retAddr 0, .retAddr 0, .retAddr 0, .retAddr 0], [.int (-1)], μ)) rfl ?_
    obtain rfl := Option.some.inj hr
    rw [show r = _ from hC]
    exact gIret rfl

/-! 187: TunnelFabricModel.widen(IZ)I -/
def s187_35 (a0 : Nat) (a1 : Int32) (a2 : Int32) (μ : mM) (v3 : Int32) (t0 : Int32) (t1 : Int32) (t2 : Int32) (t3 : Nat) : Option (Int32 × mM) :=
  if (mS μ t3).1 = 9 then (s149 μ t3 t2 t1 t0).bind fun q10 => if (mS q10 a0).1 = 9 then (s171 q10 a0).bind fun q13 => some (v3, q13) else none else none
set_option maxRecDepth 20000 in
theorem t187_35 (a0 : Nat) (a1 : Int32) (a2 : Int32) (μ : mM) (v3 : Int32) (t0 : Int32) (t1 : Int32) (t2 : Int32) (t3 : Nat) (w1 : Value) (hw1 : mNotL w1 = true) (w2 : Value) (hw2 : mNotL w2 = true) {o : (Int32 × mM)} {r : Option Value × mM} (hr : s187_35 a0 a1 a2 μ v3 t0 t1 t2 t3 = some o) (hC : r = (some (.int o.1), o.2)) : mGo mG (187, List.drop 35 mC187, [.ref a0, w1, w2, .int v3], [.int t0, .int t1, .int t2, .ref t3], μ) r := by
  unfold s187_35 at hr
  obtain ⟨h9, hr⟩ := mIf hr
  obtain ⟨q10, h11, hr⟩ := mBi hr
  refine gCall (z := 149) (n := 3) (f := 0) (kind := 1) (a := t3) (As := [.int t2, .int t1, .int t0]) (y := 187) (is := List.drop 36 mC187) (L := [.ref a0, w1, w2, .int v3]) (rest := []) (μ := μ) rfl (by decide) (by decide) ⟨rfl, rfl⟩ rfl h9 (Nat.le_of_ble_eq_true rfl) (Nat.le_of_ble_eq_true rfl) (t149 h11) ?_
  refine mGo.steps 1 (c' := (187, List.drop 37 mC187, [.ref a0, w1, w2, .int v3], [.ref a0], q10)) rfl ?_
  obtain ⟨h12, hr⟩ := mIf hr
  obtain ⟨q13, h14, hr⟩ := mBi hr
  refine gCall (z := 171) (n := 0) (f := 0) (kind := 1) (a := a0) (As := []) (y := 187) (is := List.drop 38 mC187) (L := [.ref a0, w1, w2, .int v3]) (rest := []) (μ := q10) rfl (by decide) (by decide) ⟨rfl, rfl⟩ rfl h12 (Nat.le_of_ble_eq_true rfl) (Nat.le_of_ble_eq_true rfl) (t171 h14) ?_
  refine mGo.steps 1 (c' := (187, List.drop 39 mC187, [.ref a0, w1, w2, .int v3], [.int v3], q13)) rfl ?_
  obtain rfl := Option.some.inj hr
  rw [show r = _ from hC]
  exact gIret rfl
def s187_22 (a0 : Nat) (a1 : Int32) (a2 : Int32) (μ : mM) : Option (Int32 × mM) :=
  if (mS μ a0).1 = 9 then (s148 μ a0 a1 5).bind fun q7 => if a2 = 0 then (s187_35 a0 a1 a2 μ q7 0 5 a1 a0) else (s187_35 a0 a1 a2 μ q7 1 5 a1 a0) else none
set_option maxRecDepth 20000 in
theorem t187_22 (a0 : Nat) (a1 : Int32) (a2 : Int32) (μ : mM) (w3 : Value) (hw3 : mNotL w3 = true) {o : (Int32 × mM)} {r : Option Value × mM} (hr : s187_22 a0 a1 a2 μ = some o) (hC : r = (some (.int o.1), o.2)) : mGo mG (187, List.drop 22 mC187, [.ref a0, .int a1, .int a2, w3], [], μ) r := by
  unfold s187_22 at hr
  refine mGo.steps 3 (c' := (187, List.drop 25 mC187, [.ref a0, .int a1, .int a2, w3], [.int 5, .int a1, .ref a0], μ)) rfl ?_
  obtain ⟨h6, hr⟩ := mIf hr
  obtain ⟨q7, h8, hr⟩ := mBi hr
  refine gCall (z := 148) (n := 2) (f := 0) (kind := 1) (a := a0) (As := [.int a1, .int 5]) (y := 187) (is := List.drop 26 mC187) (L := [.ref a0, .int a1, .int a2, w3]) (rest := []) (μ := μ) rfl (by decide) (by decide) ⟨rfl, rfl⟩ rfl h6 (Nat.le_of_ble_eq_true rfl) (Nat.le_of_ble_eq_true rfl) (t148 h8) ?_
  refine mGo.steps 5 (c' := (187, List.drop 31 mC187, [.ref a0, .int a1, .int a2, .int q7], [.int a2, .int 5, .int a1, .ref a0], μ)) rfl ?_
  rcases mIte hr with ⟨h15, hr⟩ | ⟨h15, hr⟩
  · refine gBrT (p := a2 = 0) (y := 187) (is := List.drop 32 mC187) (L := [.ref a0, .int a1, .int a2, .int q7]) (st := [.int 5, .int a1, .ref a0]) (μ := μ) (t := 57) rfl h15 ?_
    refine mGo.steps 1 (c' := (187, List.drop 35 mC187, [.ref a0, .int a1, .int a2, .int q7], [.int 0, .int 5, .int a1, .ref a0], μ)) rfl ?_
    exact t187_35 a0 a1 a2 μ q7 0 5 a1 a0 (.int a1) rfl (.int a2) rfl hr hC
  · refine gBrF (p := a2 = 0) (y := 187) (is := List.drop 32 mC187) (L := [.ref a0, .int a1, .int a2, .int q7]) (st := [.int 5, .int a1, .ref a0]) (μ := μ) (t := 57) rfl h15 ?_
    refine mGo.steps 2 (c' := (187, List.drop 35 mC187, [.ref a0, .int a1, .int a2, .int q7], [.int 1, .int 5, .int a1, .ref a0], μ)) rfl ?_
    exact t187_35 a0 a1 a2 μ q7 1 5 a1 a0 (.int a1) rfl (.int a2) rfl hr hC
def s187 (μ : mM) (a0 : Nat) (a1 : Int32) (a2 : Int32) : Option (Int32 × mM) :=
  if (mS μ a0).1 = 9 then (s151 μ a0 a1).bind fun q2 => if ¬ q2 = 0 then ((s154 μ a0 a1).bind fun q4 => if q4 = 3 then (if ¬ a2 = 0 then (s187_22 a0 a1 a2 μ) else ((s168 μ a0 a1).bind fun q16 => if q16 ≤ 7 then (s187_22 a0 a1 a2 μ) else (some ((-8), μ)))) else (some ((-2), μ))) else (some ((-1), μ)) else none
set_option maxRecDepth 20000 in
theorem t187 {μ : mM} {a0 : Nat} {a1 : Int32} {a2 : Int32} {o : (Int32 × mM)} (hr : s187 μ a0 a1 a2 = some o) : mEv mG 187 [.ref a0, .int a1, .int a2] μ (some (.int o.1)) (o.2) := by
  obtain ⟨r, hC⟩ : ∃ r : Option Value × mM, r = (some (.int o.1), o.2) := ⟨_, rfl⟩
  show mGo mG (187, List.drop 0 mC187, [.ref a0, .int a1, .int a2, .retAddr 0], [], μ) (some (.int o.1), o.2)
  rw [← hC]
  unfold s187 at hr
  refine mGo.steps 2 (c' := (187, List.drop 2 mC187, [.ref a0, .int a1, .int a2, .retAddr 0], [.int a1, .ref a0], μ)) rfl ?_
  obtain ⟨h1, hr⟩ := mIf hr
  obtain ⟨q2, h3, hr⟩ := mBi hr
  refine gCall (z := 151) (n := 1) (f := 0) (kind := 1) (a := a0) (As := [.int a1]) (y := 187) (is := List.drop 3 mC187) (L := [.ref a0, .int a1, .int a2, .retAddr 0]) (rest := []) (μ := μ) rfl (by decide) (by decide) ⟨rfl, rfl⟩ rfl h1 (Nat.le_of_ble_eq_true rfl) (Nat.le_of_ble_eq_true rfl) (t151 h3) ?_
  rcases mIte hr with ⟨h21, hr⟩ | ⟨h21, hr⟩
  · refine gBrT (p := ¬ q2 = 0) (y := 187) (is := List.drop 4 mC187) (L := [.ref a0, .int a1, .int a2, .retAddr 0]) (st := []) (μ := μ) (t := 10) rfl h21 ?_
    refine mGo.steps 2 (c' := (187, List.drop 8 mC187, [.ref a0, .int a1, .int a2, .retAddr 0], [.int a1, .ref a0], μ)) rfl ?_
    obtain ⟨q4, h5, hr⟩ := mBi hr
    refine gCall (z := 154) (n := 1) (f := 0) (kind := 1) (a := a0) (As := [.int a1]) (y := 187) (is := List.drop 9 mC187) (L := [.ref a0, .int a1, .int a2, .retAddr 0]) (rest := []) (μ := μ) rfl (by decide) (by decide) ⟨rfl, rfl⟩ rfl h1 (Nat.le_of_ble_eq_true rfl) (Nat.le_of_ble_eq_true rfl) (t154 h5) ?_
    refine mGo.steps 1 (c' := (187, List.drop 10 mC187, [.ref a0, .int a1, .int a2, .retAddr 0], [.int 3, .int q4], μ)) rfl ?_
    rcases mIte hr with ⟨h20, hr⟩ | ⟨h20, hr⟩
    · refine gBrT (p := q4 = 3) (y := 187) (is := List.drop 11 mC187) (L := [.ref a0, .int a1, .int a2, .retAddr 0]) (st := []) (μ := μ) (t := 22) rfl h20 ?_
      refine mGo.steps 1 (c' := (187, List.drop 14 mC187, [.ref a0, .int a1, .int a2, .retAddr 0], [.int a2], μ)) rfl ?_
      rcases mIte hr with ⟨h19, hr⟩ | ⟨h19, hr⟩
      · refine gBrT (p := ¬ a2 = 0) (y := 187) (is := List.drop 15 mC187) (L := [.ref a0, .int a1, .int a2, .retAddr 0]) (st := []) (μ := μ) (t := 39) rfl h19 ?_
        exact t187_22 a0 a1 a2 μ (.retAddr 0) rfl hr hC
      · refine gBrF (p := ¬ a2 = 0) (y := 187) (is := List.drop 15 mC187) (L := [.ref a0, .int a1, .int a2, .retAddr 0]) (st := []) (μ := μ) (t := 39) rfl h19 ?_
        refine mGo.steps 2 (c' := (187, List.drop 17 mC187, [.ref a0, .int a1, .int a2, .retAddr 0], [.int a1, .ref a0], μ)) rfl ?_
        obtain ⟨q16, h17, hr⟩ := mBi hr
        refine gCall (z := 168) (n := 1) (f := 0) (kind := 1) (a := a0) (As := [.int a1]) (y := 187) (is := List.drop 18 mC187) (L := [.ref a0, .int a1, .int a2, .retAddr 0]) (rest := []) (μ := μ) rfl (by decide) (by decide) ⟨rfl, rfl⟩ rfl h1 (Nat.le_of_ble_eq_true rfl) (Nat.le_of_ble_eq_true rfl) (t168 h17) ?_
        refine mGo.steps 1 (c' := (187, List.drop 19 mC187, [.ref a0, .int a1, .int a2, .retAddr 0], [.int 7, .int q16], μ)) rfl ?_
        rcases mIte hr with ⟨h18, hr⟩ | ⟨h18, hr⟩
        · refine gBrT (p := q16 ≤ 7) (y := 187) (is := List.drop 20 mC187) (L := [.ref a0, .int a1, .int a2, .retAddr 0]) (st := []) (μ := μ) (t := 39) rfl h18 ?_
          exact t187_22 a0 a1 a2 μ (.retAddr 0) rfl hr hC
        · refine gBrF (p := q16 ≤ 7) (y := 187) (is := List.drop 20 mC187) (L := [.ref a0, .int a1, .int a2, .retAddr 0]) (st := []) (μ := μ) (t := 39) rfl h18 ?_
          refine mGo.steps 1 (c' := (187, List.drop 21 mC187, [.ref a0, .int a1, .int a2, .retAddr 0], [.int (-8)], μ)) rfl ?_
          obtain rfl := Option.some.inj hr
          rw [show r = _ from hC]
          exact gIret rfl
    · refine gBrF (p := q4 = 3) (y := 187) (is := List.drop 11 mC187) (L := [.ref a0, .int a1, .int a2, .retAddr 0]) (st := []) (μ := μ) (t := 22) rfl h20 ?_
      refine mGo.steps 1 (c' := (187, List.drop 12 mC187, [.ref a0, .int a1, .int a2, .retAddr 0], [.int (-2)], μ)) rfl ?_
      obtain rfl := Option.some.inj hr
      rw [show r = _ from hC]
      exact gIret rfl
  · refine gBrF (p := ¬ q2 = 0) (y := 187) (is := List.drop 4 mC187) (L := [.ref a0, .int a1, .int a2, .retAddr 0]) (st := []) (μ := μ) (t := 10) rfl h21 ?_
    refine mGo.steps 1 (c' := (187, List.drop 5 mC187, [.ref a0, .int a1, .int a2, .retAddr 0], [.int (-1)], μ)) rfl ?_
    obtain rfl := Option.some.inj hr
    rw [show r = _ from hC]
    exact gIret rfl

/-! 188: TunnelFabricModel.router(II)I -/
def s188_9 (μ : mM) (a0 : Nat) (a1 : Int32) (a2 : Int32) : Option Int32 :=
  some (-1)
set_option maxRecDepth 20000 in
theorem t188_9 (μ : mM) (a0 : Nat) (a1 : Int32) (a2 : Int32) (w0 : Value) (hw0 : mNotL w0 = true) (w1 : Value) (hw1 : mNotL w1 = true) (w2 : Value) (hw2 : mNotL w2 = true) {o : Int32} {r : Option Value × mM} (hr : s188_9 μ a0 a1 a2 = some o) (hC : r = (some (.int o), μ)) : mGo mG (188, List.drop 9 mC188, [w0, w1, w2], [], μ) r := by
  unfold s188_9 at hr
  refine mGo.steps 1 (c' := (188, List.drop 10 mC188, [w0, w1, w2], [.int (-1)], μ)) rfl ?_
  obtain rfl := Option.some.inj hr
  rw [show r = _ from hC]
  exact gIret rfl
def s188_31 (μ : mM) (a0 : Nat) (a1 : Int32) (a2 : Int32) (t0 : Int32) : Option Int32 :=
  some t0
set_option maxRecDepth 20000 in
theorem t188_31 (μ : mM) (a0 : Nat) (a1 : Int32) (a2 : Int32) (t0 : Int32) (w0 : Value) (hw0 : mNotL w0 = true) (w1 : Value) (hw1 : mNotL w1 = true) (w2 : Value) (hw2 : mNotL w2 = true) {o : Int32} {r : Option Value × mM} (hr : s188_31 μ a0 a1 a2 t0 = some o) (hC : r = (some (.int o), μ)) : mGo mG (188, List.drop 31 mC188, [w0, w1, w2], [.int t0], μ) r := by
  unfold s188_31 at hr
  obtain rfl := Option.some.inj hr
  rw [show r = _ from hC]
  exact gIret rfl
def s188_40 (μ : mM) (a0 : Nat) (a1 : Int32) (a2 : Int32) (t0 : Int32) : Option Int32 :=
  some t0
set_option maxRecDepth 20000 in
theorem t188_40 (μ : mM) (a0 : Nat) (a1 : Int32) (a2 : Int32) (t0 : Int32) (w0 : Value) (hw0 : mNotL w0 = true) (w1 : Value) (hw1 : mNotL w1 = true) (w2 : Value) (hw2 : mNotL w2 = true) {o : Int32} {r : Option Value × mM} (hr : s188_40 μ a0 a1 a2 t0 = some o) (hC : r = (some (.int o), μ)) : mGo mG (188, List.drop 40 mC188, [w0, w1, w2], [.int t0], μ) r := by
  unfold s188_40 at hr
  obtain rfl := Option.some.inj hr
  rw [show r = _ from hC]
  exact gIret rfl
def s188 (μ : mM) (a0 : Nat) (a1 : Int32) (a2 : Int32) : Option Int32 :=
  if (mS μ a0).1 = 9 then (s150 μ a0 a1).bind fun q2 => if q2 = 0 then (s188_9 μ a0 a1 a2) else ((s144 μ a2 0 5).bind fun q4 => if ¬ q4 = 0 then (if a2 = 0 then ((s148 μ a0 a1 1).bind fun q6 => some q6) else (if a2 = 1 then ((s148 μ a0 a1 2).bind fun q9 => some q9) else (if a2 = 2 then (if ¬ a1 = 0 then ((s148 μ a0 a1 3).bind fun q12 => s188_31 μ a0 a1 a2 q12) else (s188_31 μ a0 a1 a2 (-10))) else (if a2 = 3 then (if ¬ a1 = 0 then ((s148 μ a0 a1 4).bind fun q16 => s188_40 μ a0 a1 a2 q16) else (s188_40 μ a0 a1 a2 (-10))) else (if a2 = 4 then ((s152 μ a0 a1).bind fun q20 => some q20) else ((s185 μ a0 a1).bind fun q23 => some q23)))))) else (s188_9 μ a0 a1 a2)) else none
set_option maxRecDepth 20000 in
theorem t188 {μ : mM} {a0 : Nat} {a1 : Int32} {a2 : Int32} {o : Int32} (hr : s188 μ a0 a1 a2 = some o) : mEv mG 188 [.ref a0, .int a1, .int a2] μ (some (.int o)) (μ) := by
  obtain ⟨r, hC⟩ : ∃ r : Option Value × mM, r = (some (.int o), μ) := ⟨_, rfl⟩
  show mGo mG (188, List.drop 0 mC188, [.ref a0, .int a1, .int a2], [], μ) (some (.int o), μ)
  rw [← hC]
  unfold s188 at hr
  refine mGo.steps 2 (c' := (188, List.drop 2 mC188, [.ref a0, .int a1, .int a2], [.int a1, .ref a0], μ)) rfl ?_
  obtain ⟨h1, hr⟩ := mIf hr
  obtain ⟨q2, h3, hr⟩ := mBi hr
  refine gCall (z := 150) (n := 1) (f := 0) (kind := 1) (a := a0) (As := [.int a1]) (y := 188) (is := List.drop 3 mC188) (L := [.ref a0, .int a1, .int a2]) (rest := []) (μ := μ) rfl (by decide) (by decide) ⟨rfl, rfl⟩ rfl h1 (Nat.le_of_ble_eq_true rfl) (Nat.le_of_ble_eq_true rfl) (t150 h3) ?_
  rcases mIte hr with ⟨h26, hr⟩ | ⟨h26, hr⟩
  · refine gBrT (p := q2 = 0) (y := 188) (is := List.drop 4 mC188) (L := [.ref a0, .int a1, .int a2]) (st := []) (μ := μ) (t := 17) rfl h26 ?_
    exact t188_9 μ a0 a1 a2 (.ref a0) rfl (.int a1) rfl (.int a2) rfl hr hC
  · refine gBrF (p := q2 = 0) (y := 188) (is := List.drop 4 mC188) (L := [.ref a0, .int a1, .int a2]) (st := []) (μ := μ) (t := 17) rfl h26 ?_
    refine mGo.steps 3 (c' := (188, List.drop 7 mC188, [.ref a0, .int a1, .int a2], [.int 5, .int 0, .int a2], μ)) rfl ?_
    obtain ⟨q4, h5, hr⟩ := mBi hr
    refine mGo.call (z := 144) (as := [.int a2, .int 0, .int 5]) (y := 188) (is := List.drop 8 mC188) (L := [.ref a0, .int a1, .int a2]) (st := []) (μ := μ) rfl (t144 h5) ?_
    rcases mIte hr with ⟨h25, hr⟩ | ⟨h25, hr⟩
    · refine gBrT (p := ¬ q4 = 0) (y := 188) (is := List.drop 9 mC188) (L := [.ref a0, .int a1, .int a2]) (st := []) (μ := μ) (t := 19) rfl h25 ?_
      refine mGo.steps 1 (c' := (188, List.drop 12 mC188, [.ref a0, .int a1, .int a2], [.int a2], μ)) rfl ?_
      refine mGo.steps 1 (c' := (188, mSeek (mTs a2 0 [56, 63, 70, 86, 102] 108) (rC (mG 188)), [.ref a0, .int a1, .int a2], [], μ)) rfl ?_
      rcases mIte hr with ⟨h8, hr⟩ | ⟨h8, hr⟩
      · refine gTs1 (w := 0) h8 rfl ?_
        refine mGo.steps 3 (c' := (188, List.drop 16 mC188, [.ref a0, .int a1, .int a2], [.int 1, .int a1, .ref a0], μ)) rfl ?_
        obtain ⟨q6, h7, hr⟩ := mBi hr
        refine gCall (z := 148) (n := 2) (f := 0) (kind := 1) (a := a0) (As := [.int a1, .int 1]) (y := 188) (is := List.drop 17 mC188) (L := [.ref a0, .int a1, .int a2]) (rest := []) (μ := μ) rfl (by decide) (by decide) ⟨rfl, rfl⟩ rfl h1 (Nat.le_of_ble_eq_true rfl) (Nat.le_of_ble_eq_true rfl) (t148 h7) ?_
        obtain rfl := Option.some.inj hr
        rw [show r = _ from hC]
        exact gIret rfl
      · refine gTs0 (w := 0) h8 rfl ?_
        rcases mIte hr with ⟨h11, hr⟩ | ⟨h11, hr⟩
        · refine gTs1 (w := 1) h11 rfl ?_
          refine mGo.steps 3 (c' := (188, List.drop 21 mC188, [.ref a0, .int a1, .int a2], [.int 2, .int a1, .ref a0], μ)) rfl ?_
          obtain ⟨q9, h10, hr⟩ := mBi hr
          refine gCall (z := 148) (n := 2) (f := 0) (kind := 1) (a := a0) (As := [.int a1, .int 2]) (y := 188) (is := List.drop 22 mC188) (L := [.ref a0, .int a1, .int a2]) (rest := []) (μ := μ) rfl (by decide) (by decide) ⟨rfl, rfl⟩ rfl h1 (Nat.le_of_ble_eq_true rfl) (Nat.le_of_ble_eq_true rfl) (t148 h10) ?_
          obtain rfl := Option.some.inj hr
          rw [show r = _ from hC]
          exact gIret rfl
        · refine gTs0 (w := 1) h11 rfl ?_
          rcases mIte hr with ⟨h15, hr⟩ | ⟨h15, hr⟩
          · refine gTs1 (w := 2) h15 rfl ?_
            refine mGo.steps 1 (c' := (188, List.drop 24 mC188, [.ref a0, .int a1, .int a2], [.int a1], μ)) rfl ?_
            rcases mIte hr with ⟨h14, hr⟩ | ⟨h14, hr⟩
            · refine gBrT (p := ¬ a1 = 0) (y := 188) (is := List.drop 25 mC188) (L := [.ref a0, .int a1, .int a2]) (st := []) (μ := μ) (t := 79) rfl h14 ?_
              refine mGo.steps 3 (c' := (188, List.drop 30 mC188, [.ref a0, .int a1, .int a2], [.int 3, .int a1, .ref a0], μ)) rfl ?_
              obtain ⟨q12, h13, hr⟩ := mBi hr
              refine gCall (z := 148) (n := 2) (f := 0) (kind := 1) (a := a0) (As := [.int a1, .int 3]) (y := 188) (is := List.drop 31 mC188) (L := [.ref a0, .int a1, .int a2]) (rest := []) (μ := μ) rfl (by decide) (by decide) ⟨rfl, rfl⟩ rfl h1 (Nat.le_of_ble_eq_true rfl) (Nat.le_of_ble_eq_true rfl) (t148 h13) ?_
              exact t188_31 μ a0 a1 a2 q12 (.ref a0) rfl (.int a1) rfl (.int a2) rfl hr hC
            · refine gBrF (p := ¬ a1 = 0) (y := 188) (is := List.drop 25 mC188) (L := [.ref a0, .int a1, .int a2]) (st := []) (μ := μ) (t := 79) rfl h14 ?_
              refine mGo.steps 2 (c' := (188, List.drop 31 mC188, [.ref a0, .int a1, .int a2], [.int (-10)], μ)) rfl ?_
              exact t188_31 μ a0 a1 a2 (-10) (.ref a0) rfl (.int a1) rfl (.int a2) rfl hr hC
          · refine gTs0 (w := 2) h15 rfl ?_
            rcases mIte hr with ⟨h19, hr⟩ | ⟨h19, hr⟩
            · refine gTs1 (w := 3) h19 rfl ?_
              refine mGo.steps 1 (c' := (188, List.drop 33 mC188, [.ref a0, .int a1, .int a2], [.int a1], μ)) rfl ?_
              rcases mIte hr with ⟨h18, hr⟩ | ⟨h18, hr⟩
              · refine gBrT (p := ¬ a1 = 0) (y := 188) (is := List.drop 34 mC188) (L := [.ref a0, .int a1, .int a2]) (st := []) (μ := μ) (t := 95) rfl h18 ?_
                refine mGo.steps 3 (c' := (188, List.drop 39 mC188, [.ref a0, .int a1, .int a2], [.int 4, .int a1, .ref a0], μ)) rfl ?_
                obtain ⟨q16, h17, hr⟩ := mBi hr
                refine gCall (z := 148) (n := 2) (f := 0) (kind := 1) (a := a0) (As := [.int a1, .int 4]) (y := 188) (is := List.drop 40 mC188) (L := [.ref a0, .int a1, .int a2]) (rest := []) (μ := μ) rfl (by decide) (by decide) ⟨rfl, rfl⟩ rfl h1 (Nat.le_of_ble_eq_true rfl) (Nat.le_of_ble_eq_true rfl) (t148 h17) ?_
                exact t188_40 μ a0 a1 a2 q16 (.ref a0) rfl (.int a1) rfl (.int a2) rfl hr hC
              · refine gBrF (p := ¬ a1 = 0) (y := 188) (is := List.drop 34 mC188) (L := [.ref a0, .int a1, .int a2]) (st := []) (μ := μ) (t := 95) rfl h18 ?_
                refine mGo.steps 2 (c' := (188, List.drop 40 mC188, [.ref a0, .int a1, .int a2], [.int (-10)], μ)) rfl ?_
                exact t188_40 μ a0 a1 a2 (-10) (.ref a0) rfl (.int a1) rfl (.int a2) rfl hr hC
            · refine gTs0 (w := 3) h19 rfl ?_
              rcases mIte hr with ⟨h22, hr⟩ | ⟨h22, hr⟩
              · refine gTs1 (w := 4) h22 rfl ?_
                refine mGo.steps 2 (c' := (188, List.drop 43 mC188, [.ref a0, .int a1, .int a2], [.int a1, .ref a0], μ)) rfl ?_
                obtain ⟨q20, h21, hr⟩ := mBi hr
                refine gCall (z := 152) (n := 1) (f := 0) (kind := 1) (a := a0) (As := [.int a1]) (y := 188) (is := List.drop 44 mC188) (L := [.ref a0, .int a1, .int a2]) (rest := []) (μ := μ) rfl (by decide) (by decide) ⟨rfl, rfl⟩ rfl h1 (Nat.le_of_ble_eq_true rfl) (Nat.le_of_ble_eq_true rfl) (t152 h21) ?_
                obtain rfl := Option.some.inj hr
                rw [show r = _ from hC]
                exact gIret rfl
              · refine gTs0 (w := 4) h22 rfl ?_
                refine mGo.steps 2 (c' := (188, List.drop 47 mC188, [.ref a0, .int a1, .int a2], [.int a1, .ref a0], μ)) rfl ?_
                obtain ⟨q23, h24, hr⟩ := mBi hr
                refine gCall (z := 185) (n := 1) (f := 0) (kind := 1) (a := a0) (As := [.int a1]) (y := 188) (is := List.drop 48 mC188) (L := [.ref a0, .int a1, .int a2]) (rest := []) (μ := μ) rfl (by decide) (by decide) ⟨rfl, rfl⟩ rfl h1 (Nat.le_of_ble_eq_true rfl) (Nat.le_of_ble_eq_true rfl) (t185 h24) ?_
                obtain rfl := Option.some.inj hr
                rw [show r = _ from hC]
                exact gIret rfl
    · refine gBrF (p := ¬ q4 = 0) (y := 188) (is := List.drop 9 mC188) (L := [.ref a0, .int a1, .int a2]) (st := []) (μ := μ) (t := 19) rfl h25 ?_
      exact t188_9 μ a0 a1 a2 (.ref a0) rfl (.int a1) rfl (.int a2) rfl hr hC

/-! 189: TunnelFabricModel.plugged(II)I -/
def s189_15 (μ : mM) (a0 : Nat) (a1 : Int32) (a2 : Int32) : Option Int32 :=
  some (-1)
set_option maxRecDepth 20000 in
theorem t189_15 (μ : mM) (a0 : Nat) (a1 : Int32) (a2 : Int32) (w0 : Value) (hw0 : mNotL w0 = true) (w1 : Value) (hw1 : mNotL w1 = true) (w2 : Value) (hw2 : mNotL w2 = true) {o : Int32} {r : Option Value × mM} (hr : s189_15 μ a0 a1 a2 = some o) (hC : r = (some (.int o), μ)) : mGo mG (189, List.drop 15 mC189, [w0, w1, w2], [], μ) r := by
  unfold s189_15 at hr
  refine mGo.steps 1 (c' := (189, List.drop 16 mC189, [w0, w1, w2], [.int (-1)], μ)) rfl ?_
  obtain rfl := Option.some.inj hr
  rw [show r = _ from hC]
  exact gIret rfl
def s189 (μ : mM) (a0 : Nat) (a1 : Int32) (a2 : Int32) : Option Int32 :=
  if (mS μ a0).1 = 9 then (s150 μ a0 a1).bind fun q2 => if q2 = 0 then (s189_15 μ a0 a1 a2) else ((s148 μ a0 a1 1).bind fun q4 => (s146 μ q4).bind fun q6 => (s144 μ a2 0 (q6 - 1)).bind fun q8 => if ¬ q8 = 0 then ((s182 μ a0 a1 a2).bind fun q10 => some q10) else (s189_15 μ a0 a1 a2)) else none
set_option maxRecDepth 20000 in
theorem t189 {μ : mM} {a0 : Nat} {a1 : Int32} {a2 : Int32} {o : Int32} (hr : s189 μ a0 a1 a2 = some o) : mEv mG 189 [.ref a0, .int a1, .int a2] μ (some (.int o)) (μ) := by
  obtain ⟨r, hC⟩ : ∃ r : Option Value × mM, r = (some (.int o), μ) := ⟨_, rfl⟩
  show mGo mG (189, List.drop 0 mC189, [.ref a0, .int a1, .int a2], [], μ) (some (.int o), μ)
  rw [← hC]
  unfold s189 at hr
  refine mGo.steps 2 (c' := (189, List.drop 2 mC189, [.ref a0, .int a1, .int a2], [.int a1, .ref a0], μ)) rfl ?_
  obtain ⟨h1, hr⟩ := mIf hr
  obtain ⟨q2, h3, hr⟩ := mBi hr
  refine gCall (z := 150) (n := 1) (f := 0) (kind := 1) (a := a0) (As := [.int a1]) (y := 189) (is := List.drop 3 mC189) (L := [.ref a0, .int a1, .int a2]) (rest := []) (μ := μ) rfl (by decide) (by decide) ⟨rfl, rfl⟩ rfl h1 (Nat.le_of_ble_eq_true rfl) (Nat.le_of_ble_eq_true rfl) (t150 h3) ?_
  rcases mIte hr with ⟨h13, hr⟩ | ⟨h13, hr⟩
  · refine gBrT (p := q2 = 0) (y := 189) (is := List.drop 4 mC189) (L := [.ref a0, .int a1, .int a2]) (st := []) (μ := μ) (t := 27) rfl h13 ?_
    exact t189_15 μ a0 a1 a2 (.ref a0) rfl (.int a1) rfl (.int a2) rfl hr hC
  · refine gBrF (p := q2 = 0) (y := 189) (is := List.drop 4 mC189) (L := [.ref a0, .int a1, .int a2]) (st := []) (μ := μ) (t := 27) rfl h13 ?_
    refine mGo.steps 5 (c' := (189, List.drop 9 mC189, [.ref a0, .int a1, .int a2], [.int 1, .int a1, .ref a0, .int 0, .int a2], μ)) rfl ?_
    obtain ⟨q4, h5, hr⟩ := mBi hr
    refine gCall (z := 148) (n := 2) (f := 0) (kind := 1) (a := a0) (As := [.int a1, .int 1]) (y := 189) (is := List.drop 10 mC189) (L := [.ref a0, .int a1, .int a2]) (rest := [.int 0, .int a2]) (μ := μ) rfl (by decide) (by decide) ⟨rfl, rfl⟩ rfl h1 (Nat.le_of_ble_eq_true rfl) (Nat.le_of_ble_eq_true rfl) (t148 h5) ?_
    obtain ⟨q6, h7, hr⟩ := mBi hr
    refine mGo.call (z := 146) (as := [.int q4]) (y := 189) (is := List.drop 11 mC189) (L := [.ref a0, .int a1, .int a2]) (st := [.int 0, .int a2]) (μ := μ) rfl (t146 h7) ?_
    refine mGo.steps 2 (c' := (189, List.drop 13 mC189, [.ref a0, .int a1, .int a2], [.int (q6 - 1), .int 0, .int a2], μ)) rfl ?_
    obtain ⟨q8, h9, hr⟩ := mBi hr
    refine mGo.call (z := 144) (as := [.int a2, .int 0, .int (q6 - 1)]) (y := 189) (is := List.drop 14 mC189) (L := [.ref a0, .int a1, .int a2]) (st := []) (μ := μ) rfl (t144 h9) ?_
    rcases mIte hr with ⟨h12, hr⟩ | ⟨h12, hr⟩
    · refine gBrT (p := ¬ q8 = 0) (y := 189) (is := List.drop 15 mC189) (L := [.ref a0, .int a1, .int a2]) (st := []) (μ := μ) (t := 29) rfl h12 ?_
      refine mGo.steps 3 (c' := (189, List.drop 20 mC189, [.ref a0, .int a1, .int a2], [.int a2, .int a1, .ref a0], μ)) rfl ?_
      obtain ⟨q10, h11, hr⟩ := mBi hr
      refine gCall (z := 182) (n := 2) (f := 0) (kind := 1) (a := a0) (As := [.int a1, .int a2]) (y := 189) (is := List.drop 21 mC189) (L := [.ref a0, .int a1, .int a2]) (rest := []) (μ := μ) rfl (by decide) (by decide) ⟨rfl, rfl⟩ rfl h1 (Nat.le_of_ble_eq_true rfl) (Nat.le_of_ble_eq_true rfl) (t182 h11) ?_
      obtain rfl := Option.some.inj hr
      rw [show r = _ from hC]
      exact gIret rfl
    · refine gBrF (p := ¬ q8 = 0) (y := 189) (is := List.drop 15 mC189) (L := [.ref a0, .int a1, .int a2]) (st := []) (μ := μ) (t := 29) rfl h12 ?_
      exact t189_15 μ a0 a1 a2 (.ref a0) rfl (.int a1) rfl (.int a2) rfl hr hC

/-! 190: TunnelFabricModel.link(II)I -/
def s190_9 (μ : mM) (a0 : Nat) (a1 : Int32) (a2 : Int32) : Option Int32 :=
  some (-1)
set_option maxRecDepth 20000 in
theorem t190_9 (μ : mM) (a0 : Nat) (a1 : Int32) (a2 : Int32) (w0 : Value) (hw0 : mNotL w0 = true) (w1 : Value) (hw1 : mNotL w1 = true) (w2 : Value) (hw2 : mNotL w2 = true) {o : Int32} {r : Option Value × mM} (hr : s190_9 μ a0 a1 a2 = some o) (hC : r = (some (.int o), μ)) : mGo mG (190, List.drop 9 mC190, [w0, w1, w2], [], μ) r := by
  unfold s190_9 at hr
  refine mGo.steps 1 (c' := (190, List.drop 10 mC190, [w0, w1, w2], [.int (-1)], μ)) rfl ?_
  obtain rfl := Option.some.inj hr
  rw [show r = _ from hC]
  exact gIret rfl
def s190 (μ : mM) (a0 : Nat) (a1 : Int32) (a2 : Int32) : Option Int32 :=
  if (mS μ a0).1 = 9 then (s151 μ a0 a1).bind fun q2 => if q2 = 0 then (s190_9 μ a0 a1 a2) else ((s144 μ a2 0 6).bind fun q4 => if ¬ q4 = 0 then (if a2 = 0 then ((s154 μ a0 a1).bind fun q6 => some q6) else (if a2 = 1 then ((s148 μ a0 a1 5).bind fun q9 => some q9) else (if a2 = 2 then ((s168 μ a0 a1).bind fun q12 => some q12) else (if a2 = 3 then ((s157 μ a0 a1).bind fun q15 => some q15) else (if a2 = 4 then ((s148 μ a0 a1 6).bind fun q18 => some q18) else (if a2 = 5 then ((s148 μ a0 a1 7).bind fun q21 => some q21) else ((s148 μ a0 a1 8).bind fun q24 => some q24))))))) else (s190_9 μ a0 a1 a2)) else none
set_option maxRecDepth 20000 in
theorem t190 {μ : mM} {a0 : Nat} {a1 : Int32} {a2 : Int32} {o : Int32} (hr : s190 μ a0 a1 a2 = some o) : mEv mG 190 [.ref a0, .int a1, .int a2] μ (some (.int o)) (μ) := by
  obtain ⟨r, hC⟩ : ∃ r : Option Value × mM, r = (some (.int o), μ) := ⟨_, rfl⟩
  show mGo mG (190, List.drop 0 mC190, [.ref a0, .int a1, .int a2], [], μ) (some (.int o), μ)
  rw [← hC]
  unfold s190 at hr
  refine mGo.steps 2 (c' := (190, List.drop 2 mC190, [.ref a0, .int a1, .int a2], [.int a1, .ref a0], μ)) rfl ?_
  obtain ⟨h1, hr⟩ := mIf hr
  obtain ⟨q2, h3, hr⟩ := mBi hr
  refine gCall (z := 151) (n := 1) (f := 0) (kind := 1) (a := a0) (As := [.int a1]) (y := 190) (is := List.drop 3 mC190) (L := [.ref a0, .int a1, .int a2]) (rest := []) (μ := μ) rfl (by decide) (by decide) ⟨rfl, rfl⟩ rfl h1 (Nat.le_of_ble_eq_true rfl) (Nat.le_of_ble_eq_true rfl) (t151 h3) ?_
  rcases mIte hr with ⟨h27, hr⟩ | ⟨h27, hr⟩
  · refine gBrT (p := q2 = 0) (y := 190) (is := List.drop 4 mC190) (L := [.ref a0, .int a1, .int a2]) (st := []) (μ := μ) (t := 18) rfl h27 ?_
    exact t190_9 μ a0 a1 a2 (.ref a0) rfl (.int a1) rfl (.int a2) rfl hr hC
  · refine gBrF (p := q2 = 0) (y := 190) (is := List.drop 4 mC190) (L := [.ref a0, .int a1, .int a2]) (st := []) (μ := μ) (t := 18) rfl h27 ?_
    refine mGo.steps 3 (c' := (190, List.drop 7 mC190, [.ref a0, .int a1, .int a2], [.int 6, .int 0, .int a2], μ)) rfl ?_
    obtain ⟨q4, h5, hr⟩ := mBi hr
    refine mGo.call (z := 144) (as := [.int a2, .int 0, .int 6]) (y := 190) (is := List.drop 8 mC190) (L := [.ref a0, .int a1, .int a2]) (st := []) (μ := μ) rfl (t144 h5) ?_
    rcases mIte hr with ⟨h26, hr⟩ | ⟨h26, hr⟩
    · refine gBrT (p := ¬ q4 = 0) (y := 190) (is := List.drop 9 mC190) (L := [.ref a0, .int a1, .int a2]) (st := []) (μ := μ) (t := 20) rfl h26 ?_
      refine mGo.steps 1 (c' := (190, List.drop 12 mC190, [.ref a0, .int a1, .int a2], [.int a2], μ)) rfl ?_
      refine mGo.steps 1 (c' := (190, mSeek (mTs a2 0 [60, 66, 73, 79, 85, 93] 101) (rC (mG 190)), [.ref a0, .int a1, .int a2], [], μ)) rfl ?_
      rcases mIte hr with ⟨h8, hr⟩ | ⟨h8, hr⟩
      · refine gTs1 (w := 0) h8 rfl ?_
        refine mGo.steps 2 (c' := (190, List.drop 15 mC190, [.ref a0, .int a1, .int a2], [.int a1, .ref a0], μ)) rfl ?_
        obtain ⟨q6, h7, hr⟩ := mBi hr
        refine gCall (z := 154) (n := 1) (f := 0) (kind := 1) (a := a0) (As := [.int a1]) (y := 190) (is := List.drop 16 mC190) (L := [.ref a0, .int a1, .int a2]) (rest := []) (μ := μ) rfl (by decide) (by decide) ⟨rfl, rfl⟩ rfl h1 (Nat.le_of_ble_eq_true rfl) (Nat.le_of_ble_eq_true rfl) (t154 h7) ?_
        obtain rfl := Option.some.inj hr
        rw [show r = _ from hC]
        exact gIret rfl
      · refine gTs0 (w := 0) h8 rfl ?_
        rcases mIte hr with ⟨h11, hr⟩ | ⟨h11, hr⟩
        · refine gTs1 (w := 1) h11 rfl ?_
          refine mGo.steps 3 (c' := (190, List.drop 20 mC190, [.ref a0, .int a1, .int a2], [.int 5, .int a1, .ref a0], μ)) rfl ?_
          obtain ⟨q9, h10, hr⟩ := mBi hr
          refine gCall (z := 148) (n := 2) (f := 0) (kind := 1) (a := a0) (As := [.int a1, .int 5]) (y := 190) (is := List.drop 21 mC190) (L := [.ref a0, .int a1, .int a2]) (rest := []) (μ := μ) rfl (by decide) (by decide) ⟨rfl, rfl⟩ rfl h1 (Nat.le_of_ble_eq_true rfl) (Nat.le_of_ble_eq_true rfl) (t148 h10) ?_
          obtain rfl := Option.some.inj hr
          rw [show r = _ from hC]
          exact gIret rfl
        · refine gTs0 (w := 1) h11 rfl ?_
          rcases mIte hr with ⟨h14, hr⟩ | ⟨h14, hr⟩
          · refine gTs1 (w := 2) h14 rfl ?_
            refine mGo.steps 2 (c' := (190, List.drop 24 mC190, [.ref a0, .int a1, .int a2], [.int a1, .ref a0], μ)) rfl ?_
            obtain ⟨q12, h13, hr⟩ := mBi hr
            refine gCall (z := 168) (n := 1) (f := 0) (kind := 1) (a := a0) (As := [.int a1]) (y := 190) (is := List.drop 25 mC190) (L := [.ref a0, .int a1, .int a2]) (rest := []) (μ := μ) rfl (by decide) (by decide) ⟨rfl, rfl⟩ rfl h1 (Nat.le_of_ble_eq_true rfl) (Nat.le_of_ble_eq_true rfl) (t168 h13) ?_
            obtain rfl := Option.some.inj hr
            rw [show r = _ from hC]
            exact gIret rfl
          · refine gTs0 (w := 2) h14 rfl ?_
            rcases mIte hr with ⟨h17, hr⟩ | ⟨h17, hr⟩
            · refine gTs1 (w := 3) h17 rfl ?_
              refine mGo.steps 2 (c' := (190, List.drop 28 mC190, [.ref a0, .int a1, .int a2], [.int a1, .ref a0], μ)) rfl ?_
              obtain ⟨q15, h16, hr⟩ := mBi hr
              refine gCall (z := 157) (n := 1) (f := 0) (kind := 1) (a := a0) (As := [.int a1]) (y := 190) (is := List.drop 29 mC190) (L := [.ref a0, .int a1, .int a2]) (rest := []) (μ := μ) rfl (by decide) (by decide) ⟨rfl, rfl⟩ rfl h1 (Nat.le_of_ble_eq_true rfl) (Nat.le_of_ble_eq_true rfl) (t157 h16) ?_
              obtain rfl := Option.some.inj hr
              rw [show r = _ from hC]
              exact gIret rfl
            · refine gTs0 (w := 3) h17 rfl ?_
              rcases mIte hr with ⟨h20, hr⟩ | ⟨h20, hr⟩
              · refine gTs1 (w := 4) h20 rfl ?_
                refine mGo.steps 3 (c' := (190, List.drop 33 mC190, [.ref a0, .int a1, .int a2], [.int 6, .int a1, .ref a0], μ)) rfl ?_
                obtain ⟨q18, h19, hr⟩ := mBi hr
                refine gCall (z := 148) (n := 2) (f := 0) (kind := 1) (a := a0) (As := [.int a1, .int 6]) (y := 190) (is := List.drop 34 mC190) (L := [.ref a0, .int a1, .int a2]) (rest := []) (μ := μ) rfl (by decide) (by decide) ⟨rfl, rfl⟩ rfl h1 (Nat.le_of_ble_eq_true rfl) (Nat.le_of_ble_eq_true rfl) (t148 h19) ?_
                obtain rfl := Option.some.inj hr
                rw [show r = _ from hC]
                exact gIret rfl
              · refine gTs0 (w := 4) h20 rfl ?_
                rcases mIte hr with ⟨h23, hr⟩ | ⟨h23, hr⟩
                · refine gTs1 (w := 5) h23 rfl ?_
                  refine mGo.steps 3 (c' := (190, List.drop 38 mC190, [.ref a0, .int a1, .int a2], [.int 7, .int a1, .ref a0], μ)) rfl ?_
                  obtain ⟨q21, h22, hr⟩ := mBi hr
                  refine gCall (z := 148) (n := 2) (f := 0) (kind := 1) (a := a0) (As := [.int a1, .int 7]) (y := 190) (is := List.drop 39 mC190) (L := [.ref a0, .int a1, .int a2]) (rest := []) (μ := μ) rfl (by decide) (by decide) ⟨rfl, rfl⟩ rfl h1 (Nat.le_of_ble_eq_true rfl) (Nat.le_of_ble_eq_true rfl) (t148 h22) ?_
                  obtain rfl := Option.some.inj hr
                  rw [show r = _ from hC]
                  exact gIret rfl
                · refine gTs0 (w := 5) h23 rfl ?_
                  refine mGo.steps 3 (c' := (190, List.drop 43 mC190, [.ref a0, .int a1, .int a2], [.int 8, .int a1, .ref a0], μ)) rfl ?_
                  obtain ⟨q24, h25, hr⟩ := mBi hr
                  refine gCall (z := 148) (n := 2) (f := 0) (kind := 1) (a := a0) (As := [.int a1, .int 8]) (y := 190) (is := List.drop 44 mC190) (L := [.ref a0, .int a1, .int a2]) (rest := []) (μ := μ) rfl (by decide) (by decide) ⟨rfl, rfl⟩ rfl h1 (Nat.le_of_ble_eq_true rfl) (Nat.le_of_ble_eq_true rfl) (t148 h25) ?_
                  obtain rfl := Option.some.inj hr
                  rw [show r = _ from hC]
                  exact gIret rfl
    · refine gBrF (p := ¬ q4 = 0) (y := 190) (is := List.drop 9 mC190) (L := [.ref a0, .int a1, .int a2]) (st := []) (μ := μ) (t := 20) rfl h26 ?_
      exact t190_9 μ a0 a1 a2 (.ref a0) rfl (.int a1) rfl (.int a2) rfl hr hC

/-! 191: TunnelFabricModel.isWay(II)Z -/
def s191_12 (μ : mM) (a0 : Nat) (a1 : Int32) (a2 : Int32) (t0 : Int32) : Option Int32 :=
  if t0 = 0 ∨ t0 = 1 then some t0 else none
set_option maxRecDepth 20000 in
theorem t191_12 (μ : mM) (a0 : Nat) (a1 : Int32) (a2 : Int32) (t0 : Int32) (w0 : Value) (hw0 : mNotL w0 = true) (w1 : Value) (hw1 : mNotL w1 = true) (w2 : Value) (hw2 : mNotL w2 = true) {o : Int32} {r : Option Value × mM} (hr : s191_12 μ a0 a1 a2 t0 = some o) (hC : r = (some (.int o), μ)) : mGo mG (191, List.drop 12 mC191, [w0, w1, w2], [.int t0], μ) r := by
  unfold s191_12 at hr
  obtain ⟨h4, hr⟩ := mIf hr
  obtain rfl := Option.some.inj hr
  rw [show r = _ from hC]
  exact gZret rfl h4
def s191_11 (μ : mM) (a0 : Nat) (a1 : Int32) (a2 : Int32) : Option Int32 :=
  s191_12 μ a0 a1 a2 0
set_option maxRecDepth 20000 in
theorem t191_11 (μ : mM) (a0 : Nat) (a1 : Int32) (a2 : Int32) (w0 : Value) (hw0 : mNotL w0 = true) (w1 : Value) (hw1 : mNotL w1 = true) (w2 : Value) (hw2 : mNotL w2 = true) {o : Int32} {r : Option Value × mM} (hr : s191_11 μ a0 a1 a2 = some o) (hC : r = (some (.int o), μ)) : mGo mG (191, List.drop 11 mC191, [w0, w1, w2], [], μ) r := by
  unfold s191_11 at hr
  refine mGo.steps 1 (c' := (191, List.drop 12 mC191, [w0, w1, w2], [.int 0], μ)) rfl ?_
  exact t191_12 μ a0 a1 a2 0 w0 hw0 w1 hw1 w2 hw2 hr hC
def s191 (μ : mM) (a0 : Nat) (a1 : Int32) (a2 : Int32) : Option Int32 :=
  if (mS μ a0).1 = 9 then (s151 μ a0 a1).bind fun q2 => if q2 = 0 then (s191_11 μ a0 a1 a2) else ((s144 μ a2 0 1).bind fun q5 => if q5 = 0 then (s191_11 μ a0 a1 a2) else (s191_12 μ a0 a1 a2 1)) else none
set_option maxRecDepth 20000 in
theorem t191 {μ : mM} {a0 : Nat} {a1 : Int32} {a2 : Int32} {o : Int32} (hr : s191 μ a0 a1 a2 = some o) : mEv mG 191 [.ref a0, .int a1, .int a2] μ (some (.int o)) (μ) := by
  obtain ⟨r, hC⟩ : ∃ r : Option Value × mM, r = (some (.int o), μ) := ⟨_, rfl⟩
  show mGo mG (191, List.drop 0 mC191, [.ref a0, .int a1, .int a2], [], μ) (some (.int o), μ)
  rw [← hC]
  unfold s191 at hr
  refine mGo.steps 2 (c' := (191, List.drop 2 mC191, [.ref a0, .int a1, .int a2], [.int a1, .ref a0], μ)) rfl ?_
  obtain ⟨h1, hr⟩ := mIf hr
  obtain ⟨q2, h3, hr⟩ := mBi hr
  refine gCall (z := 151) (n := 1) (f := 0) (kind := 1) (a := a0) (As := [.int a1]) (y := 191) (is := List.drop 3 mC191) (L := [.ref a0, .int a1, .int a2]) (rest := []) (μ := μ) rfl (by decide) (by decide) ⟨rfl, rfl⟩ rfl h1 (Nat.le_of_ble_eq_true rfl) (Nat.le_of_ble_eq_true rfl) (t151 h3) ?_
  rcases mIte hr with ⟨h8, hr⟩ | ⟨h8, hr⟩
  · refine gBrT (p := q2 = 0) (y := 191) (is := List.drop 4 mC191) (L := [.ref a0, .int a1, .int a2]) (st := []) (μ := μ) (t := 21) rfl h8 ?_
    exact t191_11 μ a0 a1 a2 (.ref a0) rfl (.int a1) rfl (.int a2) rfl hr hC
  · refine gBrF (p := q2 = 0) (y := 191) (is := List.drop 4 mC191) (L := [.ref a0, .int a1, .int a2]) (st := []) (μ := μ) (t := 21) rfl h8 ?_
    refine mGo.steps 3 (c' := (191, List.drop 7 mC191, [.ref a0, .int a1, .int a2], [.int 1, .int 0, .int a2], μ)) rfl ?_
    obtain ⟨q5, h6, hr⟩ := mBi hr
    refine mGo.call (z := 144) (as := [.int a2, .int 0, .int 1]) (y := 191) (is := List.drop 8 mC191) (L := [.ref a0, .int a1, .int a2]) (st := []) (μ := μ) rfl (t144 h6) ?_
    rcases mIte hr with ⟨h7, hr⟩ | ⟨h7, hr⟩
    · refine gBrT (p := q5 = 0) (y := 191) (is := List.drop 9 mC191) (L := [.ref a0, .int a1, .int a2]) (st := []) (μ := μ) (t := 21) rfl h7 ?_
      exact t191_11 μ a0 a1 a2 (.ref a0) rfl (.int a1) rfl (.int a2) rfl hr hC
    · refine gBrF (p := q5 = 0) (y := 191) (is := List.drop 9 mC191) (L := [.ref a0, .int a1, .int a2]) (st := []) (μ := μ) (t := 21) rfl h7 ?_
      refine mGo.steps 2 (c' := (191, List.drop 12 mC191, [.ref a0, .int a1, .int a2], [.int 1], μ)) rfl ?_
      exact t191_12 μ a0 a1 a2 1 (.ref a0) rfl (.int a1) rfl (.int a2) rfl hr hC

/-! 192: TunnelFabricModel.capacity(II)I -/
def s192_11 (μ : mM) (a0 : Nat) (a1 : Int32) (a2 : Int32) (t0 : Int32) : Option Int32 :=
  some t0
set_option maxRecDepth 20000 in
theorem t192_11 (μ : mM) (a0 : Nat) (a1 : Int32) (a2 : Int32) (t0 : Int32) (w0 : Value) (hw0 : mNotL w0 = true) (w1 : Value) (hw1 : mNotL w1 = true) (w2 : Value) (hw2 : mNotL w2 = true) {o : Int32} {r : Option Value × mM} (hr : s192_11 μ a0 a1 a2 t0 = some o) (hC : r = (some (.int o), μ)) : mGo mG (192, List.drop 11 mC192, [w0, w1, w2], [.int t0], μ) r := by
  unfold s192_11 at hr
  obtain rfl := Option.some.inj hr
  rw [show r = _ from hC]
  exact gIret rfl
def s192 (μ : mM) (a0 : Nat) (a1 : Int32) (a2 : Int32) : Option Int32 :=
  if (mS μ a0).1 = 9 then (s191 μ a0 a1 a2).bind fun q2 => if q2 = 0 then (s192_11 μ a0 a1 a2 (-1)) else ((s156 μ a0 a1 a2).bind fun q4 => s192_11 μ a0 a1 a2 q4) else none
set_option maxRecDepth 20000 in
theorem t192 {μ : mM} {a0 : Nat} {a1 : Int32} {a2 : Int32} {o : Int32} (hr : s192 μ a0 a1 a2 = some o) : mEv mG 192 [.ref a0, .int a1, .int a2] μ (some (.int o)) (μ) := by
  obtain ⟨r, hC⟩ : ∃ r : Option Value × mM, r = (some (.int o), μ) := ⟨_, rfl⟩
  show mGo mG (192, List.drop 0 mC192, [.ref a0, .int a1, .int a2], [], μ) (some (.int o), μ)
  rw [← hC]
  unfold s192 at hr
  refine mGo.steps 3 (c' := (192, List.drop 3 mC192, [.ref a0, .int a1, .int a2], [.int a2, .int a1, .ref a0], μ)) rfl ?_
  obtain ⟨h1, hr⟩ := mIf hr
  obtain ⟨q2, h3, hr⟩ := mBi hr
  refine gCall (z := 191) (n := 2) (f := 0) (kind := 1) (a := a0) (As := [.int a1, .int a2]) (y := 192) (is := List.drop 4 mC192) (L := [.ref a0, .int a1, .int a2]) (rest := []) (μ := μ) rfl (by decide) (by decide) ⟨rfl, rfl⟩ rfl h1 (Nat.le_of_ble_eq_true rfl) (Nat.le_of_ble_eq_true rfl) (t191 h3) ?_
  rcases mIte hr with ⟨h6, hr⟩ | ⟨h6, hr⟩
  · refine gBrT (p := q2 = 0) (y := 192) (is := List.drop 5 mC192) (L := [.ref a0, .int a1, .int a2]) (st := []) (μ := μ) (t := 18) rfl h6 ?_
    refine mGo.steps 1 (c' := (192, List.drop 11 mC192, [.ref a0, .int a1, .int a2], [.int (-1)], μ)) rfl ?_
    exact t192_11 μ a0 a1 a2 (-1) (.ref a0) rfl (.int a1) rfl (.int a2) rfl hr hC
  · refine gBrF (p := q2 = 0) (y := 192) (is := List.drop 5 mC192) (L := [.ref a0, .int a1, .int a2]) (st := []) (μ := μ) (t := 18) rfl h6 ?_
    refine mGo.steps 3 (c' := (192, List.drop 8 mC192, [.ref a0, .int a1, .int a2], [.int a2, .int a1, .ref a0], μ)) rfl ?_
    obtain ⟨q4, h5, hr⟩ := mBi hr
    refine gCall (z := 156) (n := 2) (f := 0) (kind := 1) (a := a0) (As := [.int a1, .int a2]) (y := 192) (is := List.drop 9 mC192) (L := [.ref a0, .int a1, .int a2]) (rest := []) (μ := μ) rfl (by decide) (by decide) ⟨rfl, rfl⟩ rfl h1 (Nat.le_of_ble_eq_true rfl) (Nat.le_of_ble_eq_true rfl) (t156 h5) ?_
    refine mGo.steps 1 (c' := (192, List.drop 11 mC192, [.ref a0, .int a1, .int a2], [.int q4], μ)) rfl ?_
    exact t192_11 μ a0 a1 a2 q4 (.ref a0) rfl (.int a1) rfl (.int a2) rfl hr hC

/-! 193: TunnelFabricModel.freeCredits(II)I -/
def s193_11 (μ : mM) (a0 : Nat) (a1 : Int32) (a2 : Int32) (t0 : Int32) : Option Int32 :=
  some t0
set_option maxRecDepth 20000 in
theorem t193_11 (μ : mM) (a0 : Nat) (a1 : Int32) (a2 : Int32) (t0 : Int32) (w0 : Value) (hw0 : mNotL w0 = true) (w1 : Value) (hw1 : mNotL w1 = true) (w2 : Value) (hw2 : mNotL w2 = true) {o : Int32} {r : Option Value × mM} (hr : s193_11 μ a0 a1 a2 t0 = some o) (hC : r = (some (.int o), μ)) : mGo mG (193, List.drop 11 mC193, [w0, w1, w2], [.int t0], μ) r := by
  unfold s193_11 at hr
  obtain rfl := Option.some.inj hr
  rw [show r = _ from hC]
  exact gIret rfl
def s193 (μ : mM) (a0 : Nat) (a1 : Int32) (a2 : Int32) : Option Int32 :=
  if (mS μ a0).1 = 9 then (s191 μ a0 a1 a2).bind fun q2 => if q2 = 0 then (s193_11 μ a0 a1 a2 (-1)) else ((s166 μ a0 a1 a2).bind fun q4 => s193_11 μ a0 a1 a2 q4) else none
set_option maxRecDepth 20000 in
theorem t193 {μ : mM} {a0 : Nat} {a1 : Int32} {a2 : Int32} {o : Int32} (hr : s193 μ a0 a1 a2 = some o) : mEv mG 193 [.ref a0, .int a1, .int a2] μ (some (.int o)) (μ) := by
  obtain ⟨r, hC⟩ : ∃ r : Option Value × mM, r = (some (.int o), μ) := ⟨_, rfl⟩
  show mGo mG (193, List.drop 0 mC193, [.ref a0, .int a1, .int a2], [], μ) (some (.int o), μ)
  rw [← hC]
  unfold s193 at hr
  refine mGo.steps 3 (c' := (193, List.drop 3 mC193, [.ref a0, .int a1, .int a2], [.int a2, .int a1, .ref a0], μ)) rfl ?_
  obtain ⟨h1, hr⟩ := mIf hr
  obtain ⟨q2, h3, hr⟩ := mBi hr
  refine gCall (z := 191) (n := 2) (f := 0) (kind := 1) (a := a0) (As := [.int a1, .int a2]) (y := 193) (is := List.drop 4 mC193) (L := [.ref a0, .int a1, .int a2]) (rest := []) (μ := μ) rfl (by decide) (by decide) ⟨rfl, rfl⟩ rfl h1 (Nat.le_of_ble_eq_true rfl) (Nat.le_of_ble_eq_true rfl) (t191 h3) ?_
  rcases mIte hr with ⟨h6, hr⟩ | ⟨h6, hr⟩
  · refine gBrT (p := q2 = 0) (y := 193) (is := List.drop 5 mC193) (L := [.ref a0, .int a1, .int a2]) (st := []) (μ := μ) (t := 18) rfl h6 ?_
    refine mGo.steps 1 (c' := (193, List.drop 11 mC193, [.ref a0, .int a1, .int a2], [.int (-1)], μ)) rfl ?_
    exact t193_11 μ a0 a1 a2 (-1) (.ref a0) rfl (.int a1) rfl (.int a2) rfl hr hC
  · refine gBrF (p := q2 = 0) (y := 193) (is := List.drop 5 mC193) (L := [.ref a0, .int a1, .int a2]) (st := []) (μ := μ) (t := 18) rfl h6 ?_
    refine mGo.steps 3 (c' := (193, List.drop 8 mC193, [.ref a0, .int a1, .int a2], [.int a2, .int a1, .ref a0], μ)) rfl ?_
    obtain ⟨q4, h5, hr⟩ := mBi hr
    refine gCall (z := 166) (n := 2) (f := 0) (kind := 1) (a := a0) (As := [.int a1, .int a2]) (y := 193) (is := List.drop 9 mC193) (L := [.ref a0, .int a1, .int a2]) (rest := []) (μ := μ) rfl (by decide) (by decide) ⟨rfl, rfl⟩ rfl h1 (Nat.le_of_ble_eq_true rfl) (Nat.le_of_ble_eq_true rfl) (t166 h5) ?_
    refine mGo.steps 1 (c' := (193, List.drop 11 mC193, [.ref a0, .int a1, .int a2], [.int q4], μ)) rfl ?_
    exact t193_11 μ a0 a1 a2 q4 (.ref a0) rfl (.int a1) rfl (.int a2) rfl hr hC

/-! 194: TunnelFabricModel.bitsOf(F)I -/
def s194L10 (μ : mM) (s : Int32 × UInt32) : Option ((Int32 × UInt32) ⊕ ((Int32 × UInt32) ⊕ Int32)) :=
  if (Op.cmpValue (FP.fcmp s.2 FP.fconst2) CmpOp.l) < 0 then (some (.inr (.inl (s.1, s.2)))) else (if FP.fdiv s.2 FP.fconst2 &&& 0x7fffffff ≤ 0x7f800000 then some (.inl (s.1 + 1, FP.fdiv s.2 FP.fconst2)) else none)
set_option maxRecDepth 20000 in
theorem t194L10 (μ : mM) {r : Option Value × mM} (s : Int32 × UInt32) (o : ((Int32 × UInt32) ⊕ ((Int32 × UInt32) ⊕ Int32))) (hr : s194L10 μ s = some o) (hC : Sum.elim (fun s' : Int32 × UInt32 => ∀ (w0 : Value) (hw0 : mNotL w0 = true) (w3 : Value) (hw3 : mNotL w3 = true), mGo mG (194, List.drop 10 mC194, [w0, .int s'.1, .float s'.2, w3], [], μ) r) (Sum.elim (fun x : Int32 × UInt32 => ∀ (w0 : Value) (hw0 : mNotL w0 = true) (w3 : Value) (hw3 : mNotL w3 = true), mGo mG (194, List.drop 20 mC194, [w0, .int x.1, .float x.2, w3], [], μ) r) (fun y : Int32 => r = (some (.int y), μ))) o) : ∀ (w0 : Value) (hw0 : mNotL w0 = true) (w3 : Value) (hw3 : mNotL w3 = true), mGo mG (194, List.drop 10 mC194, [w0, .int s.1, .float s.2, w3], [], μ) r := by
  intro w0 hw0 w3 hw3
  unfold s194L10 at hr
  refine mGo.steps 3 (c' := (194, List.drop 13 mC194, [w0, .int s.1, .float s.2, w3], [.int (Op.cmpValue (FP.fcmp s.2 FP.fconst2) CmpOp.l)], μ)) rfl ?_
  rcases mIte hr with ⟨h2, hr⟩ | ⟨h2, hr⟩
  · refine gBrT (p := (Op.cmpValue (FP.fcmp s.2 FP.fconst2) CmpOp.l) < 0) (y := 194) (is := List.drop 14 mC194) (L := [w0, .int s.1, .float s.2, w3]) (st := []) (μ := μ) (t := 28) rfl h2 ?_
    obtain rfl := Option.some.inj hr
    exact hC w0 hw0 w3 hw3
  · refine gBrF (p := (Op.cmpValue (FP.fcmp s.2 FP.fconst2) CmpOp.l) < 0) (y := 194) (is := List.drop 14 mC194) (L := [w0, .int s.1, .float s.2, w3]) (st := []) (μ := μ) (t := 28) rfl h2 ?_
    refine mGo.steps 2 (c' := (194, List.drop 16 mC194, [w0, .int s.1, .float s.2, w3], [.float FP.fconst2, .float s.2], μ)) rfl ?_
    obtain ⟨h1, hr⟩ := mIf hr
    refine gFdiv (is := List.drop 17 mC194) h1 ?_
    refine mGo.steps 1 (c' := (194, List.drop 18 mC194, [w0, .int s.1, .float (FP.fdiv s.2 FP.fconst2), w3], [], μ)) rfl ?_
    refine gSt1 (L := [w0, .int s.1, .float (FP.fdiv s.2 FP.fconst2), w3]) (q := 1) (w := .int (s.1 + 1)) (is := List.drop 19 mC194) (st := []) (μ := μ) rfl (Nat.le_of_ble_eq_true rfl) hw0 ?_
    refine mGo.steps 1 (c' := (194, List.drop 10 mC194, [w0, .int (s.1 + 1), .float (FP.fdiv s.2 FP.fconst2), w3], [], μ)) rfl ?_
    obtain rfl := Option.some.inj hr
    exact hC w0 hw0 w3 hw3
theorem t194L10l (μ : mM) {r : Option Value × mM} (n : Nat) (s : Int32 × UInt32) (o : (Int32 × UInt32) ⊕ Int32) (hr : mLoop (s194L10 μ) n s = some o) (hC : Sum.elim (fun x : Int32 × UInt32 => ∀ (w0 : Value) (hw0 : mNotL w0 = true) (w3 : Value) (hw3 : mNotL w3 = true), mGo mG (194, List.drop 20 mC194, [w0, .int x.1, .float x.2, w3], [], μ) r) (fun y : Int32 => r = (some (.int y), μ)) o) : ∀ (w0 : Value) (hw0 : mNotL w0 = true) (w3 : Value) (hw3 : mNotL w3 = true), mGo mG (194, List.drop 10 mC194, [w0, .int s.1, .float s.2, w3], [], μ) r :=
  mLoop_go (Hd := (fun s' : Int32 × UInt32 => ∀ (w0 : Value) (hw0 : mNotL w0 = true) (w3 : Value) (hw3 : mNotL w3 = true), mGo mG (194, List.drop 10 mC194, [w0, .int s'.1, .float s'.2, w3], [], μ) r)) (fun s o hb hC => t194L10 μ s o hb hC) n s o hr hC
def s194L20 (μ : mM) (s : Int32 × UInt32) : Option ((Int32 × UInt32) ⊕ ((Int32 × UInt32) ⊕ Int32)) :=
  if 0 ≤ (Op.cmpValue (FP.fcmp s.2 FP.fconst1) CmpOp.g) then (some (.inr (.inl (s.1, s.2)))) else (if s.1 ≤ (-126) then (some (.inr (.inl (s.1, s.2)))) else (if FP.fmul s.2 FP.fconst2 &&& 0x7fffffff ≤ 0x7f800000 then some (.inl (s.1 + (-1), FP.fmul s.2 FP.fconst2)) else none))
set_option maxRecDepth 20000 in
theorem t194L20 (μ : mM) {r : Option Value × mM} (s : Int32 × UInt32) (o : ((Int32 × UInt32) ⊕ ((Int32 × UInt32) ⊕ Int32))) (hr : s194L20 μ s = some o) (hC : Sum.elim (fun s' : Int32 × UInt32 => ∀ (w0 : Value) (hw0 : mNotL w0 = true) (w3 : Value) (hw3 : mNotL w3 = true), mGo mG (194, List.drop 20 mC194, [w0, .int s'.1, .float s'.2, w3], [], μ) r) (Sum.elim (fun x : Int32 × UInt32 => ∀ (w0 : Value) (hw0 : mNotL w0 = true) (w3 : Value) (hw3 : mNotL w3 = true), mGo mG (194, List.drop 33 mC194, [w0, .int x.1, .float x.2, w3], [], μ) r) (fun y : Int32 => r = (some (.int y), μ))) o) : ∀ (w0 : Value) (hw0 : mNotL w0 = true) (w3 : Value) (hw3 : mNotL w3 = true), mGo mG (194, List.drop 20 mC194, [w0, .int s.1, .float s.2, w3], [], μ) r := by
  intro w0 hw0 w3 hw3
  unfold s194L20 at hr
  refine mGo.steps 3 (c' := (194, List.drop 23 mC194, [w0, .int s.1, .float s.2, w3], [.int (Op.cmpValue (FP.fcmp s.2 FP.fconst1) CmpOp.g)], μ)) rfl ?_
  rcases mIte hr with ⟨h9, hr⟩ | ⟨h9, hr⟩
  · refine gBrT (p := 0 ≤ (Op.cmpValue (FP.fcmp s.2 FP.fconst1) CmpOp.g)) (y := 194) (is := List.drop 24 mC194) (L := [w0, .int s.1, .float s.2, w3]) (st := []) (μ := μ) (t := 50) rfl h9 ?_
    obtain rfl := Option.some.inj hr
    exact hC w0 hw0 w3 hw3
  · refine gBrF (p := 0 ≤ (Op.cmpValue (FP.fcmp s.2 FP.fconst1) CmpOp.g)) (y := 194) (is := List.drop 24 mC194) (L := [w0, .int s.1, .float s.2, w3]) (st := []) (μ := μ) (t := 50) rfl h9 ?_
    refine mGo.steps 2 (c' := (194, List.drop 26 mC194, [w0, .int s.1, .float s.2, w3], [.int (-126), .int s.1], μ)) rfl ?_
    rcases mIte hr with ⟨h8, hr⟩ | ⟨h8, hr⟩
    · refine gBrT (p := s.1 ≤ (-126)) (y := 194) (is := List.drop 27 mC194) (L := [w0, .int s.1, .float s.2, w3]) (st := []) (μ := μ) (t := 50) rfl h8 ?_
      obtain rfl := Option.some.inj hr
      exact hC w0 hw0 w3 hw3
    · refine gBrF (p := s.1 ≤ (-126)) (y := 194) (is := List.drop 27 mC194) (L := [w0, .int s.1, .float s.2, w3]) (st := []) (μ := μ) (t := 50) rfl h8 ?_
      refine mGo.steps 2 (c' := (194, List.drop 29 mC194, [w0, .int s.1, .float s.2, w3], [.float FP.fconst2, .float s.2], μ)) rfl ?_
      obtain ⟨h7, hr⟩ := mIf hr
      refine gFmul (is := List.drop 30 mC194) h7 ?_
      refine mGo.steps 1 (c' := (194, List.drop 31 mC194, [w0, .int s.1, .float (FP.fmul s.2 FP.fconst2), w3], [], μ)) rfl ?_
      refine gSt1 (L := [w0, .int s.1, .float (FP.fmul s.2 FP.fconst2), w3]) (q := 1) (w := .int (s.1 + (-1))) (is := List.drop 32 mC194) (st := []) (μ := μ) rfl (Nat.le_of_ble_eq_true rfl) hw0 ?_
      refine mGo.steps 1 (c' := (194, List.drop 20 mC194, [w0, .int (s.1 + (-1)), .float (FP.fmul s.2 FP.fconst2), w3], [], μ)) rfl ?_
      obtain rfl := Option.some.inj hr
      exact hC w0 hw0 w3 hw3
theorem t194L20l (μ : mM) {r : Option Value × mM} (n : Nat) (s : Int32 × UInt32) (o : (Int32 × UInt32) ⊕ Int32) (hr : mLoop (s194L20 μ) n s = some o) (hC : Sum.elim (fun x : Int32 × UInt32 => ∀ (w0 : Value) (hw0 : mNotL w0 = true) (w3 : Value) (hw3 : mNotL w3 = true), mGo mG (194, List.drop 33 mC194, [w0, .int x.1, .float x.2, w3], [], μ) r) (fun y : Int32 => r = (some (.int y), μ)) o) : ∀ (w0 : Value) (hw0 : mNotL w0 = true) (w3 : Value) (hw3 : mNotL w3 = true), mGo mG (194, List.drop 20 mC194, [w0, .int s.1, .float s.2, w3], [], μ) r :=
  mLoop_go (Hd := (fun s' : Int32 × UInt32 => ∀ (w0 : Value) (hw0 : mNotL w0 = true) (w3 : Value) (hw3 : mNotL w3 = true), mGo mG (194, List.drop 20 mC194, [w0, .int s'.1, .float s'.2, w3], [], μ) r)) (fun s o hb hC => t194L20 μ s o hb hC) n s o hr hC
def s194_33 (μ : mM) (a0 : UInt32) (v1 : Int32) (v2 : UInt32) : Option Int32 :=
  if FP.fmul v2 (UInt32.ofNat 1258291200) &&& 0x7fffffff ≤ 0x7f800000 then some (((v1 + 126) <<< (23 &&& 31)) + (FP.f2i (FP.fmul v2 (UInt32.ofNat 1258291200)))) else none
set_option maxRecDepth 20000 in
theorem t194_33 (μ : mM) (a0 : UInt32) (v1 : Int32) (v2 : UInt32) (w0 : Value) (hw0 : mNotL w0 = true) (w3 : Value) (hw3 : mNotL w3 = true) {o : Int32} {r : Option Value × mM} (hr : s194_33 μ a0 v1 v2 = some o) (hC : r = (some (.int o), μ)) : mGo mG (194, List.drop 33 mC194, [w0, .int v1, .float v2, w3], [], μ) r := by
  unfold s194_33 at hr
  refine mGo.steps 2 (c' := (194, List.drop 35 mC194, [w0, .int v1, .float v2, w3], [.float (UInt32.ofNat 1258291200), .float v2], μ)) rfl ?_
  obtain ⟨h14, hr⟩ := mIf hr
  refine gFmul (is := List.drop 36 mC194) h14 ?_
  refine mGo.steps 9 (c' := (194, List.drop 45 mC194, [w0, .int v1, .float v2, .int (FP.f2i (FP.fmul v2 (UInt32.ofNat 1258291200)))], [.int (((v1 + 126) <<< (23 &&& 31)) + (FP.f2i (FP.fmul v2 (UInt32.ofNat 1258291200))))], μ)) rfl ?_
  obtain rfl := Option.some.inj hr
  rw [show r = _ from hC]
  exact gIret rfl
def s194 (μ : mM) (a0 : UInt32) : Option Int32 :=
  if ¬ (Op.cmpValue (FP.fcmp a0 FP.fconst0) CmpOp.l) = 0 then ((mLoop (s194L10 μ) 1000 (0, a0)).bind fun o3 => Sum.elim (fun x4 => (mLoop (s194L20 μ) 1000 (x4.1, x4.2)).bind fun o10 => Sum.elim (fun x11 => s194_33 μ a0 x11.1 x11.2) (fun y12 => some y12) o10) (fun y5 => some y5) o3) else (some 0)
set_option maxRecDepth 20000 in
theorem t194 {μ : mM} {a0 : UInt32} {o : Int32} (hr : s194 μ a0 = some o) : mEv mG 194 [.float a0] μ (some (.int o)) (μ) := by
  obtain ⟨r, hC⟩ : ∃ r : Option Value × mM, r = (some (.int o), μ) := ⟨_, rfl⟩
  show mGo mG (194, List.drop 0 mC194, [.float a0, .retAddr 0, .retAddr 0, .retAddr 0], [], μ) (some (.int o), μ)
  rw [← hC]
  unfold s194 at hr
  refine mGo.steps 3 (c' := (194, List.drop 3 mC194, [.float a0, .retAddr 0, .retAddr 0, .retAddr 0], [.int (Op.cmpValue (FP.fcmp a0 FP.fconst0) CmpOp.l)], μ)) rfl ?_
  rcases mIte hr with ⟨h15, hr⟩ | ⟨h15, hr⟩
  · refine gBrT (p := ¬ (Op.cmpValue (FP.fcmp a0 FP.fconst0) CmpOp.l) = 0) (y := 194) (is := List.drop 4 mC194) (L := [.float a0, .retAddr 0, .retAddr 0, .retAddr 0]) (st := []) (μ := μ) (t := 8) rfl h15 ?_
    refine mGo.steps 4 (c' := (194, List.drop 10 mC194, [.float a0, .int 0, .float a0, .retAddr 0], [], μ)) rfl ?_
    obtain ⟨o3, h6, hr⟩ := mBi hr
    refine t194L10l μ 1000 (0, a0) o3 h6 ?_ (.float a0) rfl (.retAddr 0) rfl
    cases o3 with
    | inl x4 =>
      show ∀ (w0 : Value) (hw0 : mNotL w0 = true) (w3 : Value) (hw3 : mNotL w3 = true), mGo mG (194, List.drop 20 mC194, [w0, .int x4.1, .float x4.2, w3], [], μ) r
      intro w0 hw0 w3 hw3
      replace hr : (_) = some _ := hr
      obtain ⟨o10, h13, hr⟩ := mBi hr
      refine t194L20l μ 1000 (x4.1, x4.2) o10 h13 ?_ w0 hw0 w3 hw3
      cases o10 with
      | inl x11 =>
        show ∀ (w0 : Value) (hw0 : mNotL w0 = true) (w3 : Value) (hw3 : mNotL w3 = true), mGo mG (194, List.drop 33 mC194, [w0, .int x11.1, .float x11.2, w3], [], μ) r
        intro w0 hw0 w3 hw3
        replace hr : (_) = some _ := hr
        exact t194_33 μ a0 x11.1 x11.2 w0 hw0 w3 hw3 hr hC
      | inr y12 =>
        obtain rfl := Option.some.inj hr
        exact hC
    | inr y5 =>
      obtain rfl := Option.some.inj hr
      exact hC
  · refine gBrF (p := ¬ (Op.cmpValue (FP.fcmp a0 FP.fconst0) CmpOp.l) = 0) (y := 194) (is := List.drop 4 mC194) (L := [.float a0, .retAddr 0, .retAddr 0, .retAddr 0]) (st := []) (μ := μ) (t := 8) rfl h15 ?_
    refine mGo.steps 1 (c' := (194, List.drop 5 mC194, [.float a0, .retAddr 0, .retAddr 0, .retAddr 0], [.int 0], μ)) rfl ?_
    obtain rfl := Option.some.inj hr
    rw [show r = _ from hC]
    exact gIret rfl

/-! 195: TunnelFabricModel.load(II)I -/
def s195_16 (μ : mM) (a0 : Nat) (a1 : Int32) (a2 : Int32) (t0 : Int32) : Option Int32 :=
  some t0
set_option maxRecDepth 20000 in
theorem t195_16 (μ : mM) (a0 : Nat) (a1 : Int32) (a2 : Int32) (t0 : Int32) (w0 : Value) (hw0 : mNotL w0 = true) (w1 : Value) (hw1 : mNotL w1 = true) (w2 : Value) (hw2 : mNotL w2 = true) {o : Int32} {r : Option Value × mM} (hr : s195_16 μ a0 a1 a2 t0 = some o) (hC : r = (some (.int o), μ)) : mGo mG (195, List.drop 16 mC195, [w0, w1, w2], [.int t0], μ) r := by
  unfold s195_16 at hr
  obtain rfl := Option.some.inj hr
  rw [show r = _ from hC]
  exact gIret rfl
def s195 (μ : mM) (a0 : Nat) (a1 : Int32) (a2 : Int32) : Option Int32 :=
  if (mS μ a0).1 = 9 then (s191 μ a0 a1 a2).bind fun q2 => if q2 = 0 then (s195_16 μ a0 a1 a2 (-1)) else (if (mS μ (mP μ a0 1)).1 = 11 ∧ mInb ((2 * a1) + a2) (mS μ (mP μ a0 1)).2 then (s194 μ (mF μ (mP μ a0 1) (Int32.toNatClampNeg ((2 * a1) + a2)))).bind fun q5 => s195_16 μ a0 a1 a2 q5 else none) else none
set_option maxRecDepth 20000 in
theorem t195 {μ : mM} {a0 : Nat} {a1 : Int32} {a2 : Int32} {o : Int32} (hr : s195 μ a0 a1 a2 = some o) : mEv mG 195 [.ref a0, .int a1, .int a2] μ (some (.int o)) (μ) := by
  obtain ⟨r, hC⟩ : ∃ r : Option Value × mM, r = (some (.int o), μ) := ⟨_, rfl⟩
  show mGo mG (195, List.drop 0 mC195, [.ref a0, .int a1, .int a2], [], μ) (some (.int o), μ)
  rw [← hC]
  unfold s195 at hr
  refine mGo.steps 3 (c' := (195, List.drop 3 mC195, [.ref a0, .int a1, .int a2], [.int a2, .int a1, .ref a0], μ)) rfl ?_
  obtain ⟨h1, hr⟩ := mIf hr
  obtain ⟨q2, h3, hr⟩ := mBi hr
  refine gCall (z := 191) (n := 2) (f := 0) (kind := 1) (a := a0) (As := [.int a1, .int a2]) (y := 195) (is := List.drop 4 mC195) (L := [.ref a0, .int a1, .int a2]) (rest := []) (μ := μ) rfl (by decide) (by decide) ⟨rfl, rfl⟩ rfl h1 (Nat.le_of_ble_eq_true rfl) (Nat.le_of_ble_eq_true rfl) (t191 h3) ?_
  rcases mIte hr with ⟨h7, hr⟩ | ⟨h7, hr⟩
  · refine gBrT (p := q2 = 0) (y := 195) (is := List.drop 5 mC195) (L := [.ref a0, .int a1, .int a2]) (st := []) (μ := μ) (t := 25) rfl h7 ?_
    refine mGo.steps 1 (c' := (195, List.drop 16 mC195, [.ref a0, .int a1, .int a2], [.int (-1)], μ)) rfl ?_
    exact t195_16 μ a0 a1 a2 (-1) (.ref a0) rfl (.int a1) rfl (.int a2) rfl hr hC
  · refine gBrF (p := q2 = 0) (y := 195) (is := List.drop 5 mC195) (L := [.ref a0, .int a1, .int a2]) (st := []) (μ := μ) (t := 25) rfl h7 ?_
    refine mGo.steps 1 (c' := (195, List.drop 6 mC195, [.ref a0, .int a1, .int a2], [.ref a0], μ)) rfl ?_
    refine gGet (is := List.drop 7 mC195) (v := .ref (mP μ a0 1)) h1 rfl ?_
    refine mGo.steps 5 (c' := (195, List.drop 12 mC195, [.ref a0, .int a1, .int a2], [.int ((2 * a1) + a2), .ref (mP μ a0 1)], μ)) rfl ?_
    obtain ⟨h4, hr⟩ := mIf hr
    refine gFald (is := List.drop 13 mC195) h4 ?_
    obtain ⟨q5, h6, hr⟩ := mBi hr
    refine mGo.call (z := 194) (as := [.float (mF μ (mP μ a0 1) (Int32.toNatClampNeg ((2 * a1) + a2)))]) (y := 195) (is := List.drop 14 mC195) (L := [.ref a0, .int a1, .int a2]) (st := []) (μ := μ) rfl (t194 h6) ?_
    refine mGo.steps 1 (c' := (195, List.drop 16 mC195, [.ref a0, .int a1, .int a2], [.int q5], μ)) rfl ?_
    exact t195_16 μ a0 a1 a2 q5 (.ref a0) rfl (.int a1) rfl (.int a2) rfl hr hC

/-! 196: TunnelFabricModel.openOf(I)I -/
def s196L4_23 (μ : mM) (p0 : Nat) (p1 : Int32) (v3 : Int32) (t0 : Int32) (t1 : Int32) : Option ((Int32 × Int32) ⊕ ((Int32) ⊕ Int32)) :=
  some (.inl (t1 + t0, v3 + 1))
set_option maxRecDepth 20000 in
theorem t196L4_23 (μ : mM) (p0 : Nat) (p1 : Int32) (v3 : Int32) (t0 : Int32) (t1 : Int32) (w2 : Value) (hw2 : mNotL w2 = true) {o : ((Int32 × Int32) ⊕ ((Int32) ⊕ Int32))} {r : Option Value × mM} (hr : s196L4_23 μ p0 p1 v3 t0 t1 = some o) (hC : Sum.elim (fun s' : Int32 × Int32 => mGo mG (196, List.drop 4 mC196, [.ref p0, .int p1, .int s'.1, .int s'.2], [], μ) r) (Sum.elim (fun x : Int32 => ∀ (w0 : Value) (hw0 : mNotL w0 = true) (w1 : Value) (hw1 : mNotL w1 = true) (w3 : Value) (hw3 : mNotL w3 = true), mGo mG (196, List.drop 27 mC196, [w0, w1, .int x, w3], [], μ) r) (fun y : Int32 => r = (some (.int y), μ))) o) : mGo mG (196, List.drop 23 mC196, [.ref p0, .int p1, w2, .int v3], [.int t0, .int t1], μ) r := by
  unfold s196L4_23 at hr
  refine mGo.steps 4 (c' := (196, List.drop 4 mC196, [.ref p0, .int p1, .int (t1 + t0), .int (v3 + 1)], [], μ)) rfl ?_
  obtain rfl := Option.some.inj hr
  exact hC
def s196L4_22 (μ : mM) (p0 : Nat) (p1 : Int32) (v3 : Int32) (t0 : Int32) : Option ((Int32 × Int32) ⊕ ((Int32) ⊕ Int32)) :=
  s196L4_23 μ p0 p1 v3 0 t0
set_option maxRecDepth 20000 in
theorem t196L4_22 (μ : mM) (p0 : Nat) (p1 : Int32) (v3 : Int32) (t0 : Int32) (w2 : Value) (hw2 : mNotL w2 = true) {o : ((Int32 × Int32) ⊕ ((Int32) ⊕ Int32))} {r : Option Value × mM} (hr : s196L4_22 μ p0 p1 v3 t0 = some o) (hC : Sum.elim (fun s' : Int32 × Int32 => mGo mG (196, List.drop 4 mC196, [.ref p0, .int p1, .int s'.1, .int s'.2], [], μ) r) (Sum.elim (fun x : Int32 => ∀ (w0 : Value) (hw0 : mNotL w0 = true) (w1 : Value) (hw1 : mNotL w1 = true) (w3 : Value) (hw3 : mNotL w3 = true), mGo mG (196, List.drop 27 mC196, [w0, w1, .int x, w3], [], μ) r) (fun y : Int32 => r = (some (.int y), μ))) o) : mGo mG (196, List.drop 22 mC196, [.ref p0, .int p1, w2, .int v3], [.int t0], μ) r := by
  unfold s196L4_22 at hr
  refine mGo.steps 1 (c' := (196, List.drop 23 mC196, [.ref p0, .int p1, w2, .int v3], [.int 0, .int t0], μ)) rfl ?_
  exact t196L4_23 μ p0 p1 v3 0 t0 w2 hw2 hr hC
def s196L4 (μ : mM) (p0 : Nat) (p1 : Int32) (s : Int32 × Int32) : Option ((Int32 × Int32) ⊕ ((Int32) ⊕ Int32)) :=
  if 10 ≤ s.2 then (some (.inr (.inl s.1))) else (if (mS μ p0).1 = 9 then (s159 μ p0 s.2 0).bind fun q2 => if ¬ q2 = 1 then (s196L4_22 μ p0 p1 s.2 s.1) else ((s159 μ p0 s.2 1).bind fun q4 => if ¬ q4 = p1 then (s196L4_22 μ p0 p1 s.2 s.1) else (s196L4_23 μ p0 p1 s.2 1 s.1)) else none)
set_option maxRecDepth 20000 in
theorem t196L4 (μ : mM) (p0 : Nat) (p1 : Int32) {r : Option Value × mM} (s : Int32 × Int32) (o : ((Int32 × Int32) ⊕ ((Int32) ⊕ Int32))) (hr : s196L4 μ p0 p1 s = some o) (hC : Sum.elim (fun s' : Int32 × Int32 => mGo mG (196, List.drop 4 mC196, [.ref p0, .int p1, .int s'.1, .int s'.2], [], μ) r) (Sum.elim (fun x : Int32 => ∀ (w0 : Value) (hw0 : mNotL w0 = true) (w1 : Value) (hw1 : mNotL w1 = true) (w3 : Value) (hw3 : mNotL w3 = true), mGo mG (196, List.drop 27 mC196, [w0, w1, .int x, w3], [], μ) r) (fun y : Int32 => r = (some (.int y), μ))) o) : mGo mG (196, List.drop 4 mC196, [.ref p0, .int p1, .int s.1, .int s.2], [], μ) r := by
  unfold s196L4 at hr
  refine mGo.steps 2 (c' := (196, List.drop 6 mC196, [.ref p0, .int p1, .int s.1, .int s.2], [.int 10, .int s.2], μ)) rfl ?_
  rcases mIte hr with ⟨h8, hr⟩ | ⟨h8, hr⟩
  · refine gBrT (p := 10 ≤ s.2) (y := 196) (is := List.drop 7 mC196) (L := [.ref p0, .int p1, .int s.1, .int s.2]) (st := []) (μ := μ) (t := 44) rfl h8 ?_
    obtain rfl := Option.some.inj hr
    exact hC (.ref p0) rfl (.int p1) rfl (.int s.2) rfl
  · refine gBrF (p := 10 ≤ s.2) (y := 196) (is := List.drop 7 mC196) (L := [.ref p0, .int p1, .int s.1, .int s.2]) (st := []) (μ := μ) (t := 44) rfl h8 ?_
    refine mGo.steps 4 (c' := (196, List.drop 11 mC196, [.ref p0, .int p1, .int s.1, .int s.2], [.int 0, .int s.2, .ref p0, .int s.1], μ)) rfl ?_
    obtain ⟨h1, hr⟩ := mIf hr
    obtain ⟨q2, h3, hr⟩ := mBi hr
    refine gCall (z := 159) (n := 2) (f := 0) (kind := 1) (a := p0) (As := [.int s.2, .int 0]) (y := 196) (is := List.drop 12 mC196) (L := [.ref p0, .int p1, .int s.1, .int s.2]) (rest := [.int s.1]) (μ := μ) rfl (by decide) (by decide) ⟨rfl, rfl⟩ rfl h1 (Nat.le_of_ble_eq_true rfl) (Nat.le_of_ble_eq_true rfl) (t159 h3) ?_
    refine mGo.steps 1 (c' := (196, List.drop 13 mC196, [.ref p0, .int p1, .int s.1, .int s.2], [.int 1, .int q2, .int s.1], μ)) rfl ?_
    rcases mIte hr with ⟨h7, hr⟩ | ⟨h7, hr⟩
    · refine gBrT (p := ¬ q2 = 1) (y := 196) (is := List.drop 14 mC196) (L := [.ref p0, .int p1, .int s.1, .int s.2]) (st := [.int s.1]) (μ := μ) (t := 35) rfl h7 ?_
      exact t196L4_22 μ p0 p1 s.2 s.1 (.int s.1) rfl hr hC
    · refine gBrF (p := ¬ q2 = 1) (y := 196) (is := List.drop 14 mC196) (L := [.ref p0, .int p1, .int s.1, .int s.2]) (st := [.int s.1]) (μ := μ) (t := 35) rfl h7 ?_
      refine mGo.steps 3 (c' := (196, List.drop 17 mC196, [.ref p0, .int p1, .int s.1, .int s.2], [.int 1, .int s.2, .ref p0, .int s.1], μ)) rfl ?_
      obtain ⟨q4, h5, hr⟩ := mBi hr
      refine gCall (z := 159) (n := 2) (f := 0) (kind := 1) (a := p0) (As := [.int s.2, .int 1]) (y := 196) (is := List.drop 18 mC196) (L := [.ref p0, .int p1, .int s.1, .int s.2]) (rest := [.int s.1]) (μ := μ) rfl (by decide) (by decide) ⟨rfl, rfl⟩ rfl h1 (Nat.le_of_ble_eq_true rfl) (Nat.le_of_ble_eq_true rfl) (t159 h5) ?_
      refine mGo.steps 1 (c' := (196, List.drop 19 mC196, [.ref p0, .int p1, .int s.1, .int s.2], [.int p1, .int q4, .int s.1], μ)) rfl ?_
      rcases mIte hr with ⟨h6, hr⟩ | ⟨h6, hr⟩
      · refine gBrT (p := ¬ q4 = p1) (y := 196) (is := List.drop 20 mC196) (L := [.ref p0, .int p1, .int s.1, .int s.2]) (st := [.int s.1]) (μ := μ) (t := 35) rfl h6 ?_
        exact t196L4_22 μ p0 p1 s.2 s.1 (.int s.1) rfl hr hC
      · refine gBrF (p := ¬ q4 = p1) (y := 196) (is := List.drop 20 mC196) (L := [.ref p0, .int p1, .int s.1, .int s.2]) (st := [.int s.1]) (μ := μ) (t := 35) rfl h6 ?_
        refine mGo.steps 2 (c' := (196, List.drop 23 mC196, [.ref p0, .int p1, .int s.1, .int s.2], [.int 1, .int s.1], μ)) rfl ?_
        exact t196L4_23 μ p0 p1 s.2 1 s.1 (.int s.1) rfl hr hC
theorem t196L4l (μ : mM) (p0 : Nat) (p1 : Int32) {r : Option Value × mM} (n : Nat) (s : Int32 × Int32) (o : (Int32) ⊕ Int32) (hr : mLoop (s196L4 μ p0 p1) n s = some o) (hC : Sum.elim (fun x : Int32 => ∀ (w0 : Value) (hw0 : mNotL w0 = true) (w1 : Value) (hw1 : mNotL w1 = true) (w3 : Value) (hw3 : mNotL w3 = true), mGo mG (196, List.drop 27 mC196, [w0, w1, .int x, w3], [], μ) r) (fun y : Int32 => r = (some (.int y), μ)) o) : mGo mG (196, List.drop 4 mC196, [.ref p0, .int p1, .int s.1, .int s.2], [], μ) r :=
  mLoop_go (Hd := (fun s' : Int32 × Int32 => mGo mG (196, List.drop 4 mC196, [.ref p0, .int p1, .int s'.1, .int s'.2], [], μ) r)) (fun s o hb hC => t196L4 μ p0 p1 s o hb hC) n s o hr hC
def s196 (μ : mM) (a0 : Nat) (a1 : Int32) : Option Int32 :=
  (mLoop (s196L4 μ a0 a1) 1000 (0, 0)).bind fun o9 => Sum.elim (fun x10 => some x10) (fun y11 => some y11) o9
set_option maxRecDepth 20000 in
theorem t196 {μ : mM} {a0 : Nat} {a1 : Int32} {o : Int32} (hr : s196 μ a0 a1 = some o) : mEv mG 196 [.ref a0, .int a1] μ (some (.int o)) (μ) := by
  obtain ⟨r, hC⟩ : ∃ r : Option Value × mM, r = (some (.int o), μ) := ⟨_, rfl⟩
  show mGo mG (196, List.drop 0 mC196, [.ref a0, .int a1, .retAddr 0, .retAddr 0], [], μ) (some (.int o), μ)
  rw [← hC]
  unfold s196 at hr
  refine mGo.steps 4 (c' := (196, List.drop 4 mC196, [.ref a0, .int a1, .int 0, .int 0], [], μ)) rfl ?_
  obtain ⟨o9, h12, hr⟩ := mBi hr
  refine t196L4l μ a0 a1 1000 (0, 0) o9 h12 ?_ 
  cases o9 with
  | inl x10 =>
    show ∀ (w0 : Value) (hw0 : mNotL w0 = true) (w1 : Value) (hw1 : mNotL w1 = true) (w3 : Value) (hw3 : mNotL w3 = true), mGo mG (196, List.drop 27 mC196, [w0, w1, .int x10, w3], [], μ) r
    intro w0 hw0 w1 hw1 w3 hw3
    replace hr : (_) = some _ := hr
    refine mGo.steps 1 (c' := (196, List.drop 28 mC196, [w0, w1, .int x10, w3], [.int x10], μ)) rfl ?_
    obtain rfl := Option.some.inj hr
    rw [show r = _ from hC]
    exact gIret rfl
  | inr y11 =>
    obtain rfl := Option.some.inj hr
    exact hC

/-! 197: TunnelFabricModel.against(IIZ)I -/
def s197L2L6_46 (μ : mM) (p0 : Nat) (p1 : Int32) (p3 : Int32) (p4 : Int32) (t0 : Int32) : Option ((Int32) ⊕ ((Unit) ⊕ Int32)) :=
  some (.inr (.inr t0))
set_option maxRecDepth 20000 in
theorem t197L2L6_46 (μ : mM) (p0 : Nat) (p1 : Int32) (p3 : Int32) (p4 : Int32) (t0 : Int32) (w0 : Value) (hw0 : mNotL w0 = true) (w1 : Value) (hw1 : mNotL w1 = true) (w2 : Value) (hw2 : mNotL w2 = true) (w3 : Value) (hw3 : mNotL w3 = true) (w4 : Value) (hw4 : mNotL w4 = true) (w5 : Value) (hw5 : mNotL w5 = true) (w6 : Value) (hw6 : mNotL w6 = true) {o : ((Int32) ⊕ ((Unit) ⊕ Int32))} {r : Option Value × mM} (hr : s197L2L6_46 μ p0 p1 p3 p4 t0 = some o) (hC : Sum.elim (fun s' : Int32 => ∀ (w2 : Value) (hw2 : mNotL w2 = true) (w6 : Value) (hw6 : mNotL w6 = true), mGo mG (197, List.drop 6 mC197, [.ref p0, .int p1, w2, .int p3, .int p4, .int s', w6], [], μ) r) (Sum.elim (fun x : Unit => ∀ (w2 : Value) (hw2 : mNotL w2 = true) (w5 : Value) (hw5 : mNotL w5 = true) (w6 : Value) (hw6 : mNotL w6 = true), mGo mG (197, List.drop 49 mC197, [.ref p0, .int p1, w2, .int p3, .int p4, w5, w6], [], μ) r) (fun y : Int32 => r = (some (.int y), μ))) o) : mGo mG (197, List.drop 46 mC197, [w0, w1, w2, w3, w4, w5, w6], [.int t0], μ) r := by
  unfold s197L2L6_46 at hr
  obtain rfl := Option.some.inj hr
  rw [show r = _ from hC]
  exact gIret rfl
def s197L2L6_38 (μ : mM) (p0 : Nat) (p1 : Int32) (p3 : Int32) (p4 : Int32) (v5 : Int32) (t0 : Int32) : Option ((Int32) ⊕ ((Unit) ⊕ Int32)) :=
  if t0 = 0 then (some (.inl (v5 + 1))) else (if p3 = 0 then (s197L2L6_46 μ p0 p1 p3 p4 (-6)) else (s197L2L6_46 μ p0 p1 p3 p4 (-5)))
set_option maxRecDepth 20000 in
theorem t197L2L6_38 (μ : mM) (p0 : Nat) (p1 : Int32) (p3 : Int32) (p4 : Int32) (v5 : Int32) (t0 : Int32) (w2 : Value) (hw2 : mNotL w2 = true) (w6 : Value) (hw6 : mNotL w6 = true) {o : ((Int32) ⊕ ((Unit) ⊕ Int32))} {r : Option Value × mM} (hr : s197L2L6_38 μ p0 p1 p3 p4 v5 t0 = some o) (hC : Sum.elim (fun s' : Int32 => ∀ (w2 : Value) (hw2 : mNotL w2 = true) (w6 : Value) (hw6 : mNotL w6 = true), mGo mG (197, List.drop 6 mC197, [.ref p0, .int p1, w2, .int p3, .int p4, .int s', w6], [], μ) r) (Sum.elim (fun x : Unit => ∀ (w2 : Value) (hw2 : mNotL w2 = true) (w5 : Value) (hw5 : mNotL w5 = true) (w6 : Value) (hw6 : mNotL w6 = true), mGo mG (197, List.drop 49 mC197, [.ref p0, .int p1, w2, .int p3, .int p4, w5, w6], [], μ) r) (fun y : Int32 => r = (some (.int y), μ))) o) : mGo mG (197, List.drop 38 mC197, [.ref p0, .int p1, w2, .int p3, .int p4, .int v5, w6], [.int t0], μ) r := by
  unfold s197L2L6_38 at hr
  refine mGo.steps 2 (c' := (197, List.drop 40 mC197, [.ref p0, .int p1, w2, .int p3, .int p4, .int v5, .int t0], [.int t0], μ)) rfl ?_
  rcases mIte hr with ⟨h5, hr⟩ | ⟨h5, hr⟩
  · refine gBrT (p := t0 = 0) (y := 197) (is := List.drop 41 mC197) (L := [.ref p0, .int p1, w2, .int p3, .int p4, .int v5, .int t0]) (st := []) (μ := μ) (t := 94) rfl h5 ?_
    refine mGo.steps 2 (c' := (197, List.drop 6 mC197, [.ref p0, .int p1, w2, .int p3, .int p4, .int (v5 + 1), .int t0], [], μ)) rfl ?_
    obtain rfl := Option.some.inj hr
    exact hC w2 hw2 (.int t0) rfl
  · refine gBrF (p := t0 = 0) (y := 197) (is := List.drop 41 mC197) (L := [.ref p0, .int p1, w2, .int p3, .int p4, .int v5, .int t0]) (st := []) (μ := μ) (t := 94) rfl h5 ?_
    refine mGo.steps 1 (c' := (197, List.drop 42 mC197, [.ref p0, .int p1, w2, .int p3, .int p4, .int v5, .int t0], [.int p3], μ)) rfl ?_
    rcases mIte hr with ⟨h4, hr⟩ | ⟨h4, hr⟩
    · refine gBrT (p := p3 = 0) (y := 197) (is := List.drop 43 mC197) (L := [.ref p0, .int p1, w2, .int p3, .int p4, .int v5, .int t0]) (st := []) (μ := μ) (t := 91) rfl h4 ?_
      refine mGo.steps 1 (c' := (197, List.drop 46 mC197, [.ref p0, .int p1, w2, .int p3, .int p4, .int v5, .int t0], [.int (-6)], μ)) rfl ?_
      exact t197L2L6_46 μ p0 p1 p3 p4 (-6) (.ref p0) rfl (.int p1) rfl w2 hw2 (.int p3) rfl (.int p4) rfl (.int v5) rfl (.int t0) rfl hr hC
    · refine gBrF (p := p3 = 0) (y := 197) (is := List.drop 43 mC197) (L := [.ref p0, .int p1, w2, .int p3, .int p4, .int v5, .int t0]) (st := []) (μ := μ) (t := 91) rfl h4 ?_
      refine mGo.steps 2 (c' := (197, List.drop 46 mC197, [.ref p0, .int p1, w2, .int p3, .int p4, .int v5, .int t0], [.int (-5)], μ)) rfl ?_
      exact t197L2L6_46 μ p0 p1 p3 p4 (-5) (.ref p0) rfl (.int p1) rfl w2 hw2 (.int p3) rfl (.int p4) rfl (.int v5) rfl (.int t0) rfl hr hC
def s197L2L6_34 (μ : mM) (p0 : Nat) (p1 : Int32) (p3 : Int32) (p4 : Int32) (v5 : Int32) (t0 : Int32) (t1 : Int32) : Option ((Int32) ⊕ ((Unit) ⊕ Int32)) :=
  if t0 ≤ t1 then (s197L2L6_38 μ p0 p1 p3 p4 v5 0) else (s197L2L6_38 μ p0 p1 p3 p4 v5 1)
set_option maxRecDepth 20000 in
theorem t197L2L6_34 (μ : mM) (p0 : Nat) (p1 : Int32) (p3 : Int32) (p4 : Int32) (v5 : Int32) (t0 : Int32) (t1 : Int32) (w2 : Value) (hw2 : mNotL w2 = true) (w6 : Value) (hw6 : mNotL w6 = true) {o : ((Int32) ⊕ ((Unit) ⊕ Int32))} {r : Option Value × mM} (hr : s197L2L6_34 μ p0 p1 p3 p4 v5 t0 t1 = some o) (hC : Sum.elim (fun s' : Int32 => ∀ (w2 : Value) (hw2 : mNotL w2 = true) (w6 : Value) (hw6 : mNotL w6 = true), mGo mG (197, List.drop 6 mC197, [.ref p0, .int p1, w2, .int p3, .int p4, .int s', w6], [], μ) r) (Sum.elim (fun x : Unit => ∀ (w2 : Value) (hw2 : mNotL w2 = true) (w5 : Value) (hw5 : mNotL w5 = true) (w6 : Value) (hw6 : mNotL w6 = true), mGo mG (197, List.drop 49 mC197, [.ref p0, .int p1, w2, .int p3, .int p4, w5, w6], [], μ) r) (fun y : Int32 => r = (some (.int y), μ))) o) : mGo mG (197, List.drop 34 mC197, [.ref p0, .int p1, w2, .int p3, .int p4, .int v5, w6], [.int t0, .int t1], μ) r := by
  unfold s197L2L6_34 at hr
  rcases mIte hr with ⟨h6, hr⟩ | ⟨h6, hr⟩
  · refine gBrT (p := t0 ≤ t1) (y := 197) (is := List.drop 35 mC197) (L := [.ref p0, .int p1, w2, .int p3, .int p4, .int v5, w6]) (st := []) (μ := μ) (t := 74) rfl h6 ?_
    refine mGo.steps 1 (c' := (197, List.drop 38 mC197, [.ref p0, .int p1, w2, .int p3, .int p4, .int v5, w6], [.int 0], μ)) rfl ?_
    exact t197L2L6_38 μ p0 p1 p3 p4 v5 0 w2 hw2 w6 hw6 hr hC
  · refine gBrF (p := t0 ≤ t1) (y := 197) (is := List.drop 35 mC197) (L := [.ref p0, .int p1, w2, .int p3, .int p4, .int v5, w6]) (st := []) (μ := μ) (t := 74) rfl h6 ?_
    refine mGo.steps 2 (c' := (197, List.drop 38 mC197, [.ref p0, .int p1, w2, .int p3, .int p4, .int v5, w6], [.int 1], μ)) rfl ?_
    exact t197L2L6_38 μ p0 p1 p3 p4 v5 1 w2 hw2 w6 hw6 hr hC
def s197L2L6_12 (μ : mM) (p0 : Nat) (p1 : Int32) (p3 : Int32) (p4 : Int32) (v5 : Int32) (t0 : Int32) (t1 : Int32) : Option ((Int32) ⊕ ((Unit) ⊕ Int32)) :=
  if t0 ≤ t1 then (some (.inr (.inl ()))) else (if p3 = 0 then (if (mS μ p0).1 = 9 then (s166 μ p0 p4 v5).bind fun q2 => if ¬ p1 = 0 then (s197L2L6_34 μ p0 p1 p3 p4 v5 1 q2) else (s197L2L6_34 μ p0 p1 p3 p4 v5 4 q2) else none) else (if (mS μ p0).1 = 9 then (s167 μ p0 p4 v5).bind fun q9 => if ¬ q9 = (-10) then (s197L2L6_38 μ p0 p1 p3 p4 v5 0) else (s197L2L6_38 μ p0 p1 p3 p4 v5 1) else none))
set_option maxRecDepth 20000 in
theorem t197L2L6_12 (μ : mM) (p0 : Nat) (p1 : Int32) (p3 : Int32) (p4 : Int32) (v5 : Int32) (t0 : Int32) (t1 : Int32) (w2 : Value) (hw2 : mNotL w2 = true) (w6 : Value) (hw6 : mNotL w6 = true) {o : ((Int32) ⊕ ((Unit) ⊕ Int32))} {r : Option Value × mM} (hr : s197L2L6_12 μ p0 p1 p3 p4 v5 t0 t1 = some o) (hC : Sum.elim (fun s' : Int32 => ∀ (w2 : Value) (hw2 : mNotL w2 = true) (w6 : Value) (hw6 : mNotL w6 = true), mGo mG (197, List.drop 6 mC197, [.ref p0, .int p1, w2, .int p3, .int p4, .int s', w6], [], μ) r) (Sum.elim (fun x : Unit => ∀ (w2 : Value) (hw2 : mNotL w2 = true) (w5 : Value) (hw5 : mNotL w5 = true) (w6 : Value) (hw6 : mNotL w6 = true), mGo mG (197, List.drop 49 mC197, [.ref p0, .int p1, w2, .int p3, .int p4, w5, w6], [], μ) r) (fun y : Int32 => r = (some (.int y), μ))) o) : mGo mG (197, List.drop 12 mC197, [.ref p0, .int p1, w2, .int p3, .int p4, .int v5, w6], [.int t0, .int t1], μ) r := by
  unfold s197L2L6_12 at hr
  rcases mIte hr with ⟨h13, hr⟩ | ⟨h13, hr⟩
  · refine gBrT (p := t0 ≤ t1) (y := 197) (is := List.drop 13 mC197) (L := [.ref p0, .int p1, w2, .int p3, .int p4, .int v5, w6]) (st := []) (μ := μ) (t := 100) rfl h13 ?_
    obtain rfl := Option.some.inj hr
    exact hC w2 hw2 (.int v5) rfl w6 hw6
  · refine gBrF (p := t0 ≤ t1) (y := 197) (is := List.drop 13 mC197) (L := [.ref p0, .int p1, w2, .int p3, .int p4, .int v5, w6]) (st := []) (μ := μ) (t := 100) rfl h13 ?_
    refine mGo.steps 1 (c' := (197, List.drop 14 mC197, [.ref p0, .int p1, w2, .int p3, .int p4, .int v5, w6], [.int p3], μ)) rfl ?_
    rcases mIte hr with ⟨h12, hr⟩ | ⟨h12, hr⟩
    · refine gBrT (p := p3 = 0) (y := 197) (is := List.drop 15 mC197) (L := [.ref p0, .int p1, w2, .int p3, .int p4, .int v5, w6]) (st := []) (μ := μ) (t := 50) rfl h12 ?_
      refine mGo.steps 3 (c' := (197, List.drop 28 mC197, [.ref p0, .int p1, w2, .int p3, .int p4, .int v5, w6], [.int v5, .int p4, .ref p0], μ)) rfl ?_
      obtain ⟨h1, hr⟩ := mIf hr
      obtain ⟨q2, h3, hr⟩ := mBi hr
      refine gCall (z := 166) (n := 2) (f := 0) (kind := 1) (a := p0) (As := [.int p4, .int v5]) (y := 197) (is := List.drop 29 mC197) (L := [.ref p0, .int p1, w2, .int p3, .int p4, .int v5, w6]) (rest := []) (μ := μ) rfl (by decide) (by decide) ⟨rfl, rfl⟩ rfl h1 (Nat.le_of_ble_eq_true rfl) (Nat.le_of_ble_eq_true rfl) (t166 h3) ?_
      refine mGo.steps 1 (c' := (197, List.drop 30 mC197, [.ref p0, .int p1, w2, .int p3, .int p4, .int v5, w6], [.int p1, .int q2], μ)) rfl ?_
      rcases mIte hr with ⟨h7, hr⟩ | ⟨h7, hr⟩
      · refine gBrT (p := ¬ p1 = 0) (y := 197) (is := List.drop 31 mC197) (L := [.ref p0, .int p1, w2, .int p3, .int p4, .int v5, w6]) (st := [.int q2]) (μ := μ) (t := 66) rfl h7 ?_
        refine mGo.steps 1 (c' := (197, List.drop 34 mC197, [.ref p0, .int p1, w2, .int p3, .int p4, .int v5, w6], [.int 1, .int q2], μ)) rfl ?_
        exact t197L2L6_34 μ p0 p1 p3 p4 v5 1 q2 w2 hw2 w6 hw6 hr hC
      · refine gBrF (p := ¬ p1 = 0) (y := 197) (is := List.drop 31 mC197) (L := [.ref p0, .int p1, w2, .int p3, .int p4, .int v5, w6]) (st := [.int q2]) (μ := μ) (t := 66) rfl h7 ?_
        refine mGo.steps 2 (c' := (197, List.drop 34 mC197, [.ref p0, .int p1, w2, .int p3, .int p4, .int v5, w6], [.int 4, .int q2], μ)) rfl ?_
        exact t197L2L6_34 μ p0 p1 p3 p4 v5 4 q2 w2 hw2 w6 hw6 hr hC
    · refine gBrF (p := p3 = 0) (y := 197) (is := List.drop 15 mC197) (L := [.ref p0, .int p1, w2, .int p3, .int p4, .int v5, w6]) (st := []) (μ := μ) (t := 50) rfl h12 ?_
      refine mGo.steps 3 (c' := (197, List.drop 18 mC197, [.ref p0, .int p1, w2, .int p3, .int p4, .int v5, w6], [.int v5, .int p4, .ref p0], μ)) rfl ?_
      obtain ⟨h8, hr⟩ := mIf hr
      obtain ⟨q9, h10, hr⟩ := mBi hr
      refine gCall (z := 167) (n := 2) (f := 0) (kind := 1) (a := p0) (As := [.int p4, .int v5]) (y := 197) (is := List.drop 19 mC197) (L := [.ref p0, .int p1, w2, .int p3, .int p4, .int v5, w6]) (rest := []) (μ := μ) rfl (by decide) (by decide) ⟨rfl, rfl⟩ rfl h8 (Nat.le_of_ble_eq_true rfl) (Nat.le_of_ble_eq_true rfl) (t167 h10) ?_
      refine mGo.steps 1 (c' := (197, List.drop 20 mC197, [.ref p0, .int p1, w2, .int p3, .int p4, .int v5, w6], [.int (-10), .int q9], μ)) rfl ?_
      rcases mIte hr with ⟨h11, hr⟩ | ⟨h11, hr⟩
      · refine gBrT (p := ¬ q9 = (-10)) (y := 197) (is := List.drop 21 mC197) (L := [.ref p0, .int p1, w2, .int p3, .int p4, .int v5, w6]) (st := []) (μ := μ) (t := 46) rfl h11 ?_
        refine mGo.steps 2 (c' := (197, List.drop 38 mC197, [.ref p0, .int p1, w2, .int p3, .int p4, .int v5, w6], [.int 0], μ)) rfl ?_
        exact t197L2L6_38 μ p0 p1 p3 p4 v5 0 w2 hw2 w6 hw6 hr hC
      · refine gBrF (p := ¬ q9 = (-10)) (y := 197) (is := List.drop 21 mC197) (L := [.ref p0, .int p1, w2, .int p3, .int p4, .int v5, w6]) (st := []) (μ := μ) (t := 46) rfl h11 ?_
        refine mGo.steps 2 (c' := (197, List.drop 38 mC197, [.ref p0, .int p1, w2, .int p3, .int p4, .int v5, w6], [.int 1], μ)) rfl ?_
        exact t197L2L6_38 μ p0 p1 p3 p4 v5 1 w2 hw2 w6 hw6 hr hC
def s197L2L6 (μ : mM) (p0 : Nat) (p1 : Int32) (p3 : Int32) (p4 : Int32) (s : Int32) : Option ((Int32) ⊕ ((Unit) ⊕ Int32)) :=
  if ¬ p1 = 0 then (s197L2L6_12 μ p0 p1 p3 p4 s 2 s) else (s197L2L6_12 μ p0 p1 p3 p4 s 1 s)
set_option maxRecDepth 20000 in
theorem t197L2L6 (μ : mM) (p0 : Nat) (p1 : Int32) (p3 : Int32) (p4 : Int32) {r : Option Value × mM} (s : Int32) (o : ((Int32) ⊕ ((Unit) ⊕ Int32))) (hr : s197L2L6 μ p0 p1 p3 p4 s = some o) (hC : Sum.elim (fun s' : Int32 => ∀ (w2 : Value) (hw2 : mNotL w2 = true) (w6 : Value) (hw6 : mNotL w6 = true), mGo mG (197, List.drop 6 mC197, [.ref p0, .int p1, w2, .int p3, .int p4, .int s', w6], [], μ) r) (Sum.elim (fun x : Unit => ∀ (w2 : Value) (hw2 : mNotL w2 = true) (w5 : Value) (hw5 : mNotL w5 = true) (w6 : Value) (hw6 : mNotL w6 = true), mGo mG (197, List.drop 49 mC197, [.ref p0, .int p1, w2, .int p3, .int p4, w5, w6], [], μ) r) (fun y : Int32 => r = (some (.int y), μ))) o) : ∀ (w2 : Value) (hw2 : mNotL w2 = true) (w6 : Value) (hw6 : mNotL w6 = true), mGo mG (197, List.drop 6 mC197, [.ref p0, .int p1, w2, .int p3, .int p4, .int s, w6], [], μ) r := by
  intro w2 hw2 w6 hw6
  unfold s197L2L6 at hr
  refine mGo.steps 2 (c' := (197, List.drop 8 mC197, [.ref p0, .int p1, w2, .int p3, .int p4, .int s, w6], [.int p1, .int s], μ)) rfl ?_
  rcases mIte hr with ⟨h14, hr⟩ | ⟨h14, hr⟩
  · refine gBrT (p := ¬ p1 = 0) (y := 197) (is := List.drop 9 mC197) (L := [.ref p0, .int p1, w2, .int p3, .int p4, .int s, w6]) (st := [.int s]) (μ := μ) (t := 21) rfl h14 ?_
    refine mGo.steps 1 (c' := (197, List.drop 12 mC197, [.ref p0, .int p1, w2, .int p3, .int p4, .int s, w6], [.int 2, .int s], μ)) rfl ?_
    exact t197L2L6_12 μ p0 p1 p3 p4 s 2 s w2 hw2 w6 hw6 hr hC
  · refine gBrF (p := ¬ p1 = 0) (y := 197) (is := List.drop 9 mC197) (L := [.ref p0, .int p1, w2, .int p3, .int p4, .int s, w6]) (st := [.int s]) (μ := μ) (t := 21) rfl h14 ?_
    refine mGo.steps 2 (c' := (197, List.drop 12 mC197, [.ref p0, .int p1, w2, .int p3, .int p4, .int s, w6], [.int 1, .int s], μ)) rfl ?_
    exact t197L2L6_12 μ p0 p1 p3 p4 s 1 s w2 hw2 w6 hw6 hr hC
theorem t197L2L6l (μ : mM) (p0 : Nat) (p1 : Int32) (p3 : Int32) (p4 : Int32) {r : Option Value × mM} (n : Nat) (s : Int32) (o : (Unit) ⊕ Int32) (hr : mLoop (s197L2L6 μ p0 p1 p3 p4) n s = some o) (hC : Sum.elim (fun x : Unit => ∀ (w2 : Value) (hw2 : mNotL w2 = true) (w5 : Value) (hw5 : mNotL w5 = true) (w6 : Value) (hw6 : mNotL w6 = true), mGo mG (197, List.drop 49 mC197, [.ref p0, .int p1, w2, .int p3, .int p4, w5, w6], [], μ) r) (fun y : Int32 => r = (some (.int y), μ)) o) : ∀ (w2 : Value) (hw2 : mNotL w2 = true) (w6 : Value) (hw6 : mNotL w6 = true), mGo mG (197, List.drop 6 mC197, [.ref p0, .int p1, w2, .int p3, .int p4, .int s, w6], [], μ) r :=
  mLoop_go (Hd := (fun s' : Int32 => ∀ (w2 : Value) (hw2 : mNotL w2 = true) (w6 : Value) (hw6 : mNotL w6 = true), mGo mG (197, List.drop 6 mC197, [.ref p0, .int p1, w2, .int p3, .int p4, .int s', w6], [], μ) r)) (fun s o hb hC => t197L2L6 μ p0 p1 p3 p4 s o hb hC) n s o hr hC
def s197L2 (μ : mM) (p0 : Nat) (p1 : Int32) (p3 : Int32) (s : Int32) : Option ((Int32) ⊕ ((Unit) ⊕ Int32)) :=
  if s ≤ 0 then (some (.inr (.inl ()))) else ((mLoop (s197L2L6 μ p0 p1 p3 s) 1000 0).bind fun o15 => Sum.elim (fun x16 => if (mS μ p0).1 = 9 then (s148 μ p0 s 3).bind fun q20 => some (.inl q20) else none) (fun y17 => some (.inr (.inr y17))) o15)
set_option maxRecDepth 20000 in
theorem t197L2 (μ : mM) (p0 : Nat) (p1 : Int32) (p3 : Int32) {r : Option Value × mM} (s : Int32) (o : ((Int32) ⊕ ((Unit) ⊕ Int32))) (hr : s197L2 μ p0 p1 p3 s = some o) (hC : Sum.elim (fun s' : Int32 => ∀ (w2 : Value) (hw2 : mNotL w2 = true) (w5 : Value) (hw5 : mNotL w5 = true) (w6 : Value) (hw6 : mNotL w6 = true), mGo mG (197, List.drop 2 mC197, [.ref p0, .int p1, w2, .int p3, .int s', w5, w6], [], μ) r) (Sum.elim (fun x : Unit => ∀ (w0 : Value) (hw0 : mNotL w0 = true) (w1 : Value) (hw1 : mNotL w1 = true) (w2 : Value) (hw2 : mNotL w2 = true) (w3 : Value) (hw3 : mNotL w3 = true) (w4 : Value) (hw4 : mNotL w4 = true) (w5 : Value) (hw5 : mNotL w5 = true) (w6 : Value) (hw6 : mNotL w6 = true), mGo mG (197, List.drop 55 mC197, [w0, w1, w2, w3, w4, w5, w6], [], μ) r) (fun y : Int32 => r = (some (.int y), μ))) o) : ∀ (w2 : Value) (hw2 : mNotL w2 = true) (w5 : Value) (hw5 : mNotL w5 = true) (w6 : Value) (hw6 : mNotL w6 = true), mGo mG (197, List.drop 2 mC197, [.ref p0, .int p1, w2, .int p3, .int s, w5, w6], [], μ) r := by
  intro w2 hw2 w5 hw5 w6 hw6
  unfold s197L2 at hr
  refine mGo.steps 1 (c' := (197, List.drop 3 mC197, [.ref p0, .int p1, w2, .int p3, .int s, w5, w6], [.int s], μ)) rfl ?_
  rcases mIte hr with ⟨h22, hr⟩ | ⟨h22, hr⟩
  · refine gBrT (p := s ≤ 0) (y := 197) (is := List.drop 4 mC197) (L := [.ref p0, .int p1, w2, .int p3, .int s, w5, w6]) (st := []) (μ := μ) (t := 112) rfl h22 ?_
    obtain rfl := Option.some.inj hr
    exact hC (.ref p0) rfl (.int p1) rfl w2 hw2 (.int p3) rfl (.int s) rfl w5 hw5 w6 hw6
  · refine gBrF (p := s ≤ 0) (y := 197) (is := List.drop 4 mC197) (L := [.ref p0, .int p1, w2, .int p3, .int s, w5, w6]) (st := []) (μ := μ) (t := 112) rfl h22 ?_
    refine mGo.steps 2 (c' := (197, List.drop 6 mC197, [.ref p0, .int p1, w2, .int p3, .int s, .int 0, w6], [], μ)) rfl ?_
    obtain ⟨o15, h18, hr⟩ := mBi hr
    refine t197L2L6l μ p0 p1 p3 s 1000 0 o15 h18 ?_ w2 hw2 w6 hw6
    cases o15 with
    | inl x16 =>
      show ∀ (w2 : Value) (hw2 : mNotL w2 = true) (w5 : Value) (hw5 : mNotL w5 = true) (w6 : Value) (hw6 : mNotL w6 = true), mGo mG (197, List.drop 49 mC197, [.ref p0, .int p1, w2, .int p3, .int s, w5, w6], [], μ) r
      intro w2 hw2 w5 hw5 w6 hw6
      replace hr : (_) = some _ := hr
      refine mGo.steps 3 (c' := (197, List.drop 52 mC197, [.ref p0, .int p1, w2, .int p3, .int s, w5, w6], [.int 3, .int s, .ref p0], μ)) rfl ?_
      obtain ⟨h19, hr⟩ := mIf hr
      obtain ⟨q20, h21, hr⟩ := mBi hr
      refine gCall (z := 148) (n := 2) (f := 0) (kind := 1) (a := p0) (As := [.int s, .int 3]) (y := 197) (is := List.drop 53 mC197) (L := [.ref p0, .int p1, w2, .int p3, .int s, w5, w6]) (rest := []) (μ := μ) rfl (by decide) (by decide) ⟨rfl, rfl⟩ rfl h19 (Nat.le_of_ble_eq_true rfl) (Nat.le_of_ble_eq_true rfl) (t148 h21) ?_
      refine mGo.steps 2 (c' := (197, List.drop 2 mC197, [.ref p0, .int p1, w2, .int p3, .int q20, w5, w6], [], μ)) rfl ?_
      obtain rfl := Option.some.inj hr
      exact hC w2 hw2 w5 hw5 w6 hw6
    | inr y17 =>
      obtain rfl := Option.some.inj hr
      exact hC
theorem t197L2l (μ : mM) (p0 : Nat) (p1 : Int32) (p3 : Int32) {r : Option Value × mM} (n : Nat) (s : Int32) (o : (Unit) ⊕ Int32) (hr : mLoop (s197L2 μ p0 p1 p3) n s = some o) (hC : Sum.elim (fun x : Unit => ∀ (w0 : Value) (hw0 : mNotL w0 = true) (w1 : Value) (hw1 : mNotL w1 = true) (w2 : Value) (hw2 : mNotL w2 = true) (w3 : Value) (hw3 : mNotL w3 = true) (w4 : Value) (hw4 : mNotL w4 = true) (w5 : Value) (hw5 : mNotL w5 = true) (w6 : Value) (hw6 : mNotL w6 = true), mGo mG (197, List.drop 55 mC197, [w0, w1, w2, w3, w4, w5, w6], [], μ) r) (fun y : Int32 => r = (some (.int y), μ)) o) : ∀ (w2 : Value) (hw2 : mNotL w2 = true) (w5 : Value) (hw5 : mNotL w5 = true) (w6 : Value) (hw6 : mNotL w6 = true), mGo mG (197, List.drop 2 mC197, [.ref p0, .int p1, w2, .int p3, .int s, w5, w6], [], μ) r :=
  mLoop_go (Hd := (fun s' : Int32 => ∀ (w2 : Value) (hw2 : mNotL w2 = true) (w5 : Value) (hw5 : mNotL w5 = true) (w6 : Value) (hw6 : mNotL w6 = true), mGo mG (197, List.drop 2 mC197, [.ref p0, .int p1, w2, .int p3, .int s', w5, w6], [], μ) r)) (fun s o hb hC => t197L2 μ p0 p1 p3 s o hb hC) n s o hr hC
def s197 (μ : mM) (a0 : Nat) (a1 : Int32) (a2 : Int32) (a3 : Int32) : Option Int32 :=
  (mLoop (s197L2 μ a0 a1 a3) 1000 a2).bind fun o23 => Sum.elim (fun x24 => some 0) (fun y25 => some y25) o23
set_option maxRecDepth 20000 in
theorem t197 {μ : mM} {a0 : Nat} {a1 : Int32} {a2 : Int32} {a3 : Int32} {o : Int32} (hr : s197 μ a0 a1 a2 a3 = some o) : mEv mG 197 [.ref a0, .int a1, .int a2, .int a3] μ (some (.int o)) (μ) := by
  obtain ⟨r, hC⟩ : ∃ r : Option Value × mM, r = (some (.int o), μ) := ⟨_, rfl⟩
  show mGo mG (197, List.drop 0 mC197, [.ref a0, .int a1, .int a2, .int a3, .retAddr 0, .retAddr 0, .retAddr 0], [], μ) (some (.int o), μ)
  rw [← hC]
  unfold s197 at hr
  refine mGo.steps 2 (c' := (197, List.drop 2 mC197, [.ref a0, .int a1, .int a2, .int a3, .int a2, .retAddr 0, .retAddr 0], [], μ)) rfl ?_
  obtain ⟨o23, h26, hr⟩ := mBi hr
  refine t197L2l μ a0 a1 a3 1000 a2 o23 h26 ?_ (.int a2) rfl (.retAddr 0) rfl (.retAddr 0) rfl
  cases o23 with
  | inl x24 =>
    show ∀ (w0 : Value) (hw0 : mNotL w0 = true) (w1 : Value) (hw1 : mNotL w1 = true) (w2 : Value) (hw2 : mNotL w2 = true) (w3 : Value) (hw3 : mNotL w3 = true) (w4 : Value) (hw4 : mNotL w4 = true) (w5 : Value) (hw5 : mNotL w5 = true) (w6 : Value) (hw6 : mNotL w6 = true), mGo mG (197, List.drop 55 mC197, [w0, w1, w2, w3, w4, w5, w6], [], μ) r
    intro w0 hw0 w1 hw1 w2 hw2 w3 hw3 w4 hw4 w5 hw5 w6 hw6
    replace hr : (_) = some _ := hr
    refine mGo.steps 1 (c' := (197, List.drop 56 mC197, [w0, w1, w2, w3, w4, w5, w6], [.int 0], μ)) rfl ?_
    obtain rfl := Option.some.inj hr
    rw [show r = _ from hC]
    exact gIret rfl
  | inr y25 =>
    obtain rfl := Option.some.inj hr
    exact hC

/-! 199: TunnelFabricModel.takesHops(IIII)V -/
def s199L6_35 (p0 : Nat) (p1 : Int32) (p2 : Int32) (p3 : Int32) (p4 : Int32) (p5 : Int32) (μ : mM) (v6 : Int32) (v8 : Int32) (t0 : Int32) : Option ((Int32 × mM) ⊕ ((mM) ⊕ mM)) :=
  if (mS μ p0).1 = 9 then (s163 μ p1 p4 v6).bind fun q14 => if (mS μ (mP μ p0 0)).1 = 10 ∧ mInb q14 (mS μ (mP μ p0 0)).2 then (some (mUI μ (mP μ p0 0) (Int32.toNatClampNeg q14) v8)).bind fun μ17 => (s163 μ17 p1 p4 v6).bind fun q18 => if (mS μ17 (mP μ17 p0 0)).1 = 10 ∧ mInb (q18 + 1) (mS μ17 (mP μ17 p0 0)).2 then (some (mUI μ17 (mP μ17 p0 0) (Int32.toNatClampNeg (q18 + 1)) t0)).bind fun μ21 => some (.inl (v6 + 1, μ21)) else none else none else none
set_option maxRecDepth 20000 in
theorem t199L6_35 (p0 : Nat) (p1 : Int32) (p2 : Int32) (p3 : Int32) (p4 : Int32) (p5 : Int32) (μ : mM) (v6 : Int32) (v8 : Int32) (t0 : Int32) (w7 : Value) (hw7 : mNotL w7 = true) (w9 : Value) (hw9 : mNotL w9 = true) {o : ((Int32 × mM) ⊕ ((mM) ⊕ mM))} {r : Option Value × mM} (hr : s199L6_35 p0 p1 p2 p3 p4 p5 μ v6 v8 t0 = some o) (hC : Sum.elim (fun s' : Int32 × mM => ∀ (w7 : Value) (hw7 : mNotL w7 = true) (w8 : Value) (hw8 : mNotL w8 = true) (w9 : Value) (hw9 : mNotL w9 = true), mGo mG (199, List.drop 6 mC199, [.ref p0, .int p1, .int p2, .int p3, .int p4, .int p5, .int s'.1, w7, w8, w9], [], s'.2) r) (Sum.elim (fun x : mM => ∀ (w0 : Value) (hw0 : mNotL w0 = true) (w1 : Value) (hw1 : mNotL w1 = true) (w2 : Value) (hw2 : mNotL w2 = true) (w3 : Value) (hw3 : mNotL w3 = true) (w4 : Value) (hw4 : mNotL w4 = true) (w5 : Value) (hw5 : mNotL w5 = true) (w6 : Value) (hw6 : mNotL w6 = true) (w7 : Value) (hw7 : mNotL w7 = true) (w8 : Value) (hw8 : mNotL w8 = true) (w9 : Value) (hw9 : mNotL w9 = true), mGo mG (199, List.drop 56 mC199, [w0, w1, w2, w3, w4, w5, w6, w7, w8, w9], [], x) r) (fun y : mM => r = (none, y))) o) : mGo mG (199, List.drop 35 mC199, [.ref p0, .int p1, .int p2, .int p3, .int p4, .int p5, .int v6, w7, .int v8, w9], [.int t0], μ) r := by
  unfold s199L6_35 at hr
  refine mGo.steps 2 (c' := (199, List.drop 37 mC199, [.ref p0, .int p1, .int p2, .int p3, .int p4, .int p5, .int v6, w7, .int v8, .int t0], [.ref p0], μ)) rfl ?_
  obtain ⟨h13, hr⟩ := mIf hr
  refine gGet (is := List.drop 38 mC199) (v := .ref (mP μ p0 0)) h13 rfl ?_
  refine mGo.steps 3 (c' := (199, List.drop 41 mC199, [.ref p0, .int p1, .int p2, .int p3, .int p4, .int p5, .int v6, w7, .int v8, .int t0], [.int v6, .int p4, .int p1, .ref (mP μ p0 0)], μ)) rfl ?_
  obtain ⟨q14, h15, hr⟩ := mBi hr
  refine mGo.call (z := 163) (as := [.int p1, .int p4, .int v6]) (y := 199) (is := List.drop 42 mC199) (L := [.ref p0, .int p1, .int p2, .int p3, .int p4, .int p5, .int v6, w7, .int v8, .int t0]) (st := [.ref (mP μ p0 0)]) (μ := μ) rfl (t163 h15) ?_
  refine mGo.steps 1 (c' := (199, List.drop 43 mC199, [.ref p0, .int p1, .int p2, .int p3, .int p4, .int p5, .int v6, w7, .int v8, .int t0], [.int v8, .int q14, .ref (mP μ p0 0)], μ)) rfl ?_
  obtain ⟨h16, hr⟩ := mIf hr
  replace hr := mBs hr
  refine gIast (is := List.drop 44 mC199) h16 ?_
  let μ17 : mM := mUI μ (mP μ p0 0) (Int32.toNatClampNeg q14) v8
  refine mGo.steps 1 (c' := (199, List.drop 45 mC199, [.ref p0, .int p1, .int p2, .int p3, .int p4, .int p5, .int v6, w7, .int v8, .int t0], [.ref p0], μ17)) rfl ?_
  refine gGet (is := List.drop 46 mC199) (v := .ref (mP μ17 p0 0)) h13 rfl ?_
  refine mGo.steps 3 (c' := (199, List.drop 49 mC199, [.ref p0, .int p1, .int p2, .int p3, .int p4, .int p5, .int v6, w7, .int v8, .int t0], [.int v6, .int p4, .int p1, .ref (mP μ17 p0 0)], μ17)) rfl ?_
  obtain ⟨q18, h19, hr⟩ := mBi hr
  refine mGo.call (z := 163) (as := [.int p1, .int p4, .int v6]) (y := 199) (is := List.drop 50 mC199) (L := [.ref p0, .int p1, .int p2, .int p3, .int p4, .int p5, .int v6, w7, .int v8, .int t0]) (st := [.ref (mP μ17 p0 0)]) (μ := μ17) rfl (t163 h19) ?_
  refine mGo.steps 3 (c' := (199, List.drop 53 mC199, [.ref p0, .int p1, .int p2, .int p3, .int p4, .int p5, .int v6, w7, .int v8, .int t0], [.int t0, .int (q18 + 1), .ref (mP μ17 p0 0)], μ17)) rfl ?_
  obtain ⟨h20, hr⟩ := mIf hr
  replace hr := mBs hr
  refine gIast (is := List.drop 54 mC199) h20 ?_
  let μ21 : mM := mUI μ17 (mP μ17 p0 0) (Int32.toNatClampNeg (q18 + 1)) t0
  refine mGo.steps 2 (c' := (199, List.drop 6 mC199, [.ref p0, .int p1, .int p2, .int p3, .int p4, .int p5, .int (v6 + 1), w7, .int v8, .int t0], [], μ21)) rfl ?_
  obtain rfl := Option.some.inj hr
  exact hC w7 hw7 (.int v8) rfl (.int t0) rfl
def s199L6_34 (p0 : Nat) (p1 : Int32) (p2 : Int32) (p3 : Int32) (p4 : Int32) (p5 : Int32) (μ : mM) (v6 : Int32) (v8 : Int32) (t0 : Int32) (t1 : Int32) : Option ((Int32 × mM) ⊕ ((mM) ⊕ mM)) :=
  (s145 μ t1 t0).bind fun q11 => s199L6_35 p0 p1 p2 p3 p4 p5 μ v6 v8 q11
set_option maxRecDepth 20000 in
theorem t199L6_34 (p0 : Nat) (p1 : Int32) (p2 : Int32) (p3 : Int32) (p4 : Int32) (p5 : Int32) (μ : mM) (v6 : Int32) (v8 : Int32) (t0 : Int32) (t1 : Int32) (w7 : Value) (hw7 : mNotL w7 = true) (w9 : Value) (hw9 : mNotL w9 = true) {o : ((Int32 × mM) ⊕ ((mM) ⊕ mM))} {r : Option Value × mM} (hr : s199L6_34 p0 p1 p2 p3 p4 p5 μ v6 v8 t0 t1 = some o) (hC : Sum.elim (fun s' : Int32 × mM => ∀ (w7 : Value) (hw7 : mNotL w7 = true) (w8 : Value) (hw8 : mNotL w8 = true) (w9 : Value) (hw9 : mNotL w9 = true), mGo mG (199, List.drop 6 mC199, [.ref p0, .int p1, .int p2, .int p3, .int p4, .int p5, .int s'.1, w7, w8, w9], [], s'.2) r) (Sum.elim (fun x : mM => ∀ (w0 : Value) (hw0 : mNotL w0 = true) (w1 : Value) (hw1 : mNotL w1 = true) (w2 : Value) (hw2 : mNotL w2 = true) (w3 : Value) (hw3 : mNotL w3 = true) (w4 : Value) (hw4 : mNotL w4 = true) (w5 : Value) (hw5 : mNotL w5 = true) (w6 : Value) (hw6 : mNotL w6 = true) (w7 : Value) (hw7 : mNotL w7 = true) (w8 : Value) (hw8 : mNotL w8 = true) (w9 : Value) (hw9 : mNotL w9 = true), mGo mG (199, List.drop 56 mC199, [w0, w1, w2, w3, w4, w5, w6, w7, w8, w9], [], x) r) (fun y : mM => r = (none, y))) o) : mGo mG (199, List.drop 34 mC199, [.ref p0, .int p1, .int p2, .int p3, .int p4, .int p5, .int v6, w7, .int v8, w9], [.int t0, .int t1], μ) r := by
  unfold s199L6_34 at hr
  obtain ⟨q11, h12, hr⟩ := mBi hr
  refine mGo.call (z := 145) (as := [.int t1, .int t0]) (y := 199) (is := List.drop 35 mC199) (L := [.ref p0, .int p1, .int p2, .int p3, .int p4, .int p5, .int v6, w7, .int v8, w9]) (st := []) (μ := μ) rfl (t145 h12) ?_
  exact t199L6_35 p0 p1 p2 p3 p4 p5 μ v6 v8 q11 w7 hw7 w9 hw9 hr hC
def s199L6 (p0 : Nat) (p1 : Int32) (p2 : Int32) (p3 : Int32) (p4 : Int32) (p5 : Int32) (s : Int32 × mM) : Option ((Int32 × mM) ⊕ ((mM) ⊕ mM)) :=
  if p5 ≤ s.1 then (some (.inr (.inl s.2))) else (if (mS s.2 p0).1 = 9 then (s165 s.2 p0 p3 p4 s.1).bind fun q5 => (s167 s.2 p0 q5 p4).bind fun q7 => if ¬ p2 = 0 then ((s166 s.2 p0 q5 p4).bind fun q9 => if ¬ p2 = 1 then (s199L6_34 p0 p1 p2 p3 p4 p5 s.2 s.1 q7 3 q9) else (s199L6_34 p0 p1 p2 p3 p4 p5 s.2 s.1 q7 6 q9)) else (s199L6_35 p0 p1 p2 p3 p4 p5 s.2 s.1 q7 4) else none)
set_option maxRecDepth 20000 in
theorem t199L6 (p0 : Nat) (p1 : Int32) (p2 : Int32) (p3 : Int32) (p4 : Int32) (p5 : Int32) {r : Option Value × mM} (s : Int32 × mM) (o : ((Int32 × mM) ⊕ ((mM) ⊕ mM))) (hr : s199L6 p0 p1 p2 p3 p4 p5 s = some o) (hC : Sum.elim (fun s' : Int32 × mM => ∀ (w7 : Value) (hw7 : mNotL w7 = true) (w8 : Value) (hw8 : mNotL w8 = true) (w9 : Value) (hw9 : mNotL w9 = true), mGo mG (199, List.drop 6 mC199, [.ref p0, .int p1, .int p2, .int p3, .int p4, .int p5, .int s'.1, w7, w8, w9], [], s'.2) r) (Sum.elim (fun x : mM => ∀ (w0 : Value) (hw0 : mNotL w0 = true) (w1 : Value) (hw1 : mNotL w1 = true) (w2 : Value) (hw2 : mNotL w2 = true) (w3 : Value) (hw3 : mNotL w3 = true) (w4 : Value) (hw4 : mNotL w4 = true) (w5 : Value) (hw5 : mNotL w5 = true) (w6 : Value) (hw6 : mNotL w6 = true) (w7 : Value) (hw7 : mNotL w7 = true) (w8 : Value) (hw8 : mNotL w8 = true) (w9 : Value) (hw9 : mNotL w9 = true), mGo mG (199, List.drop 56 mC199, [w0, w1, w2, w3, w4, w5, w6, w7, w8, w9], [], x) r) (fun y : mM => r = (none, y))) o) : ∀ (w7 : Value) (hw7 : mNotL w7 = true) (w8 : Value) (hw8 : mNotL w8 = true) (w9 : Value) (hw9 : mNotL w9 = true), mGo mG (199, List.drop 6 mC199, [.ref p0, .int p1, .int p2, .int p3, .int p4, .int p5, .int s.1, w7, w8, w9], [], s.2) r := by
  intro w7 hw7 w8 hw8 w9 hw9
  unfold s199L6 at hr
  refine mGo.steps 2 (c' := (199, List.drop 8 mC199, [.ref p0, .int p1, .int p2, .int p3, .int p4, .int p5, .int s.1, w7, w8, w9], [.int p5, .int s.1], s.2)) rfl ?_
  rcases mIte hr with ⟨h24, hr⟩ | ⟨h24, hr⟩
  · refine gBrT (p := p5 ≤ s.1) (y := 199) (is := List.drop 9 mC199) (L := [.ref p0, .int p1, .int p2, .int p3, .int p4, .int p5, .int s.1, w7, w8, w9]) (st := []) (μ := s.2) (t := 108) rfl h24 ?_
    obtain rfl := Option.some.inj hr
    exact hC (.ref p0) rfl (.int p1) rfl (.int p2) rfl (.int p3) rfl (.int p4) rfl (.int p5) rfl (.int s.1) rfl w7 hw7 w8 hw8 w9 hw9
  · refine gBrF (p := p5 ≤ s.1) (y := 199) (is := List.drop 9 mC199) (L := [.ref p0, .int p1, .int p2, .int p3, .int p4, .int p5, .int s.1, w7, w8, w9]) (st := []) (μ := s.2) (t := 108) rfl h24 ?_
    refine mGo.steps 4 (c' := (199, List.drop 13 mC199, [.ref p0, .int p1, .int p2, .int p3, .int p4, .int p5, .int s.1, w7, w8, w9], [.int s.1, .int p4, .int p3, .ref p0], s.2)) rfl ?_
    obtain ⟨h4, hr⟩ := mIf hr
    obtain ⟨q5, h6, hr⟩ := mBi hr
    refine gCall (z := 165) (n := 3) (f := 0) (kind := 1) (a := p0) (As := [.int p3, .int p4, .int s.1]) (y := 199) (is := List.drop 14 mC199) (L := [.ref p0, .int p1, .int p2, .int p3, .int p4, .int p5, .int s.1, w7, w8, w9]) (rest := []) (μ := s.2) rfl (by decide) (by decide) ⟨rfl, rfl⟩ rfl h4 (Nat.le_of_ble_eq_true rfl) (Nat.le_of_ble_eq_true rfl) (t165 h6) ?_
    refine mGo.steps 4 (c' := (199, List.drop 18 mC199, [.ref p0, .int p1, .int p2, .int p3, .int p4, .int p5, .int s.1, .int q5, w8, w9], [.int p4, .int q5, .ref p0], s.2)) rfl ?_
    obtain ⟨q7, h8, hr⟩ := mBi hr
    refine gCall (z := 167) (n := 2) (f := 0) (kind := 1) (a := p0) (As := [.int q5, .int p4]) (y := 199) (is := List.drop 19 mC199) (L := [.ref p0, .int p1, .int p2, .int p3, .int p4, .int p5, .int s.1, .int q5, w8, w9]) (rest := []) (μ := s.2) rfl (by decide) (by decide) ⟨rfl, rfl⟩ rfl h4 (Nat.le_of_ble_eq_true rfl) (Nat.le_of_ble_eq_true rfl) (t167 h8) ?_
    refine mGo.steps 2 (c' := (199, List.drop 21 mC199, [.ref p0, .int p1, .int p2, .int p3, .int p4, .int p5, .int s.1, .int q5, .int q7, w9], [.int p2], s.2)) rfl ?_
    rcases mIte hr with ⟨h23, hr⟩ | ⟨h23, hr⟩
    · refine gBrT (p := ¬ p2 = 0) (y := 199) (is := List.drop 22 mC199) (L := [.ref p0, .int p1, .int p2, .int p3, .int p4, .int p5, .int s.1, .int q5, .int q7, w9]) (st := []) (μ := s.2) (t := 46) rfl h23 ?_
      refine mGo.steps 3 (c' := (199, List.drop 27 mC199, [.ref p0, .int p1, .int p2, .int p3, .int p4, .int p5, .int s.1, .int q5, .int q7, w9], [.int p4, .int q5, .ref p0], s.2)) rfl ?_
      obtain ⟨q9, h10, hr⟩ := mBi hr
      refine gCall (z := 166) (n := 2) (f := 0) (kind := 1) (a := p0) (As := [.int q5, .int p4]) (y := 199) (is := List.drop 28 mC199) (L := [.ref p0, .int p1, .int p2, .int p3, .int p4, .int p5, .int s.1, .int q5, .int q7, w9]) (rest := []) (μ := s.2) rfl (by decide) (by decide) ⟨rfl, rfl⟩ rfl h4 (Nat.le_of_ble_eq_true rfl) (Nat.le_of_ble_eq_true rfl) (t166 h10) ?_
      refine mGo.steps 2 (c' := (199, List.drop 30 mC199, [.ref p0, .int p1, .int p2, .int p3, .int p4, .int p5, .int s.1, .int q5, .int q7, w9], [.int 1, .int p2, .int q9], s.2)) rfl ?_
      rcases mIte hr with ⟨h22, hr⟩ | ⟨h22, hr⟩
      · refine gBrT (p := ¬ p2 = 1) (y := 199) (is := List.drop 31 mC199) (L := [.ref p0, .int p1, .int p2, .int p3, .int p4, .int p5, .int s.1, .int q5, .int q7, w9]) (st := [.int q9]) (μ := s.2) (t := 64) rfl h22 ?_
        refine mGo.steps 1 (c' := (199, List.drop 34 mC199, [.ref p0, .int p1, .int p2, .int p3, .int p4, .int p5, .int s.1, .int q5, .int q7, w9], [.int 3, .int q9], s.2)) rfl ?_
        exact t199L6_34 p0 p1 p2 p3 p4 p5 s.2 s.1 q7 3 q9 (.int q5) rfl w9 hw9 hr hC
      · refine gBrF (p := ¬ p2 = 1) (y := 199) (is := List.drop 31 mC199) (L := [.ref p0, .int p1, .int p2, .int p3, .int p4, .int p5, .int s.1, .int q5, .int q7, w9]) (st := [.int q9]) (μ := s.2) (t := 64) rfl h22 ?_
        refine mGo.steps 2 (c' := (199, List.drop 34 mC199, [.ref p0, .int p1, .int p2, .int p3, .int p4, .int p5, .int s.1, .int q5, .int q7, w9], [.int 6, .int q9], s.2)) rfl ?_
        exact t199L6_34 p0 p1 p2 p3 p4 p5 s.2 s.1 q7 6 q9 (.int q5) rfl w9 hw9 hr hC
    · refine gBrF (p := ¬ p2 = 0) (y := 199) (is := List.drop 22 mC199) (L := [.ref p0, .int p1, .int p2, .int p3, .int p4, .int p5, .int s.1, .int q5, .int q7, w9]) (st := []) (μ := s.2) (t := 46) rfl h23 ?_
      refine mGo.steps 2 (c' := (199, List.drop 35 mC199, [.ref p0, .int p1, .int p2, .int p3, .int p4, .int p5, .int s.1, .int q5, .int q7, w9], [.int 4], s.2)) rfl ?_
      exact t199L6_35 p0 p1 p2 p3 p4 p5 s.2 s.1 q7 4 (.int q5) rfl w9 hw9 hr hC
theorem t199L6l (p0 : Nat) (p1 : Int32) (p2 : Int32) (p3 : Int32) (p4 : Int32) (p5 : Int32) {r : Option Value × mM} (n : Nat) (s : Int32 × mM) (o : (mM) ⊕ mM) (hr : mLoop (s199L6 p0 p1 p2 p3 p4 p5) n s = some o) (hC : Sum.elim (fun x : mM => ∀ (w0 : Value) (hw0 : mNotL w0 = true) (w1 : Value) (hw1 : mNotL w1 = true) (w2 : Value) (hw2 : mNotL w2 = true) (w3 : Value) (hw3 : mNotL w3 = true) (w4 : Value) (hw4 : mNotL w4 = true) (w5 : Value) (hw5 : mNotL w5 = true) (w6 : Value) (hw6 : mNotL w6 = true) (w7 : Value) (hw7 : mNotL w7 = true) (w8 : Value) (hw8 : mNotL w8 = true) (w9 : Value) (hw9 : mNotL w9 = true), mGo mG (199, List.drop 56 mC199, [w0, w1, w2, w3, w4, w5, w6, w7, w8, w9], [], x) r) (fun y : mM => r = (none, y)) o) : ∀ (w7 : Value) (hw7 : mNotL w7 = true) (w8 : Value) (hw8 : mNotL w8 = true) (w9 : Value) (hw9 : mNotL w9 = true), mGo mG (199, List.drop 6 mC199, [.ref p0, .int p1, .int p2, .int p3, .int p4, .int p5, .int s.1, w7, w8, w9], [], s.2) r :=
  mLoop_go (Hd := (fun s' : Int32 × mM => ∀ (w7 : Value) (hw7 : mNotL w7 = true) (w8 : Value) (hw8 : mNotL w8 = true) (w9 : Value) (hw9 : mNotL w9 = true), mGo mG (199, List.drop 6 mC199, [.ref p0, .int p1, .int p2, .int p3, .int p4, .int p5, .int s'.1, w7, w8, w9], [], s'.2) r)) (fun s o hb hC => t199L6 p0 p1 p2 p3 p4 p5 s o hb hC) n s o hr hC
def s199 (μ : mM) (a0 : Nat) (a1 : Int32) (a2 : Int32) (a3 : Int32) (a4 : Int32) : Option mM :=
  if (mS μ a0).1 = 9 then (s152 μ a0 a3).bind fun q2 => (mLoop (s199L6 a0 a1 a2 a3 a4 q2) 1000 (0, μ)).bind fun o25 => Sum.elim (fun x26 => some x26) (fun y27 => some y27) o25 else none
set_option maxRecDepth 20000 in
theorem t199 {μ : mM} {a0 : Nat} {a1 : Int32} {a2 : Int32} {a3 : Int32} {a4 : Int32} {o : mM} (hr : s199 μ a0 a1 a2 a3 a4 = some o) : mEv mG 199 [.ref a0, .int a1, .int a2, .int a3, .int a4] μ (none) (o) := by
  obtain ⟨r, hC⟩ : ∃ r : Option Value × mM, r = (none, o) := ⟨_, rfl⟩
  show mGo mG (199, List.drop 0 mC199, [.ref a0, .int a1, .int a2, .int a3, .int a4, .retAddr 0, .retAddr 0, .retAddr 0, .retAddr 0, .retAddr 0], [], μ) (none, o)
  rw [← hC]
  unfold s199 at hr
  refine mGo.steps 2 (c' := (199, List.drop 2 mC199, [.ref a0, .int a1, .int a2, .int a3, .int a4, .retAddr 0, .retAddr 0, .retAddr 0, .retAddr 0, .retAddr 0], [.int a3, .ref a0], μ)) rfl ?_
  obtain ⟨h1, hr⟩ := mIf hr
  obtain ⟨q2, h3, hr⟩ := mBi hr
  refine gCall (z := 152) (n := 1) (f := 0) (kind := 1) (a := a0) (As := [.int a3]) (y := 199) (is := List.drop 3 mC199) (L := [.ref a0, .int a1, .int a2, .int a3, .int a4, .retAddr 0, .retAddr 0, .retAddr 0, .retAddr 0, .retAddr 0]) (rest := []) (μ := μ) rfl (by decide) (by decide) ⟨rfl, rfl⟩ rfl h1 (Nat.le_of_ble_eq_true rfl) (Nat.le_of_ble_eq_true rfl) (t152 h3) ?_
  refine mGo.steps 3 (c' := (199, List.drop 6 mC199, [.ref a0, .int a1, .int a2, .int a3, .int a4, .int q2, .int 0, .retAddr 0, .retAddr 0, .retAddr 0], [], μ)) rfl ?_
  obtain ⟨o25, h28, hr⟩ := mBi hr
  refine t199L6l a0 a1 a2 a3 a4 q2 1000 (0, μ) o25 h28 ?_ (.retAddr 0) rfl (.retAddr 0) rfl (.retAddr 0) rfl
  cases o25 with
  | inl x26 =>
    show ∀ (w0 : Value) (hw0 : mNotL w0 = true) (w1 : Value) (hw1 : mNotL w1 = true) (w2 : Value) (hw2 : mNotL w2 = true) (w3 : Value) (hw3 : mNotL w3 = true) (w4 : Value) (hw4 : mNotL w4 = true) (w5 : Value) (hw5 : mNotL w5 = true) (w6 : Value) (hw6 : mNotL w6 = true) (w7 : Value) (hw7 : mNotL w7 = true) (w8 : Value) (hw8 : mNotL w8 = true) (w9 : Value) (hw9 : mNotL w9 = true), mGo mG (199, List.drop 56 mC199, [w0, w1, w2, w3, w4, w5, w6, w7, w8, w9], [], x26) r
    intro w0 hw0 w1 hw1 w2 hw2 w3 hw3 w4 hw4 w5 hw5 w6 hw6 w7 hw7 w8 hw8 w9 hw9
    replace hr : (_) = some _ := hr
    obtain rfl := Option.some.inj hr
    rw [show r = _ from hC]
    exact gVret rfl
  | inr y27 =>
    obtain rfl := Option.some.inj hr
    exact hC

/-! 200: TunnelFabricModel.wakes(II)V -/
def s200L2_34 (p0 : Nat) (p1 : Int32) (μ : mM) (v3 : Int32) : Option ((Int32 × mM) ⊕ ((mM) ⊕ mM)) :=
  if (mS μ p0).1 = 9 then (s148 μ p0 v3 3).bind fun q7 => some (.inl (q7, μ)) else none
set_option maxRecDepth 20000 in
theorem t200L2_34 (p0 : Nat) (p1 : Int32) (μ : mM) (v3 : Int32) (w2 : Value) (hw2 : mNotL w2 = true) {o : ((Int32 × mM) ⊕ ((mM) ⊕ mM))} {r : Option Value × mM} (hr : s200L2_34 p0 p1 μ v3 = some o) (hC : Sum.elim (fun s' : Int32 × mM => ∀ (w2 : Value) (hw2 : mNotL w2 = true), mGo mG (200, List.drop 2 mC200, [.ref p0, .int p1, w2, .int s'.1], [], s'.2) r) (Sum.elim (fun x : mM => ∀ (w0 : Value) (hw0 : mNotL w0 = true) (w1 : Value) (hw1 : mNotL w1 = true) (w2 : Value) (hw2 : mNotL w2 = true) (w3 : Value) (hw3 : mNotL w3 = true), mGo mG (200, List.drop 40 mC200, [w0, w1, w2, w3], [], x) r) (fun y : mM => r = (none, y))) o) : mGo mG (200, List.drop 34 mC200, [.ref p0, .int p1, w2, .int v3], [], μ) r := by
  unfold s200L2_34 at hr
  refine mGo.steps 3 (c' := (200, List.drop 37 mC200, [.ref p0, .int p1, w2, .int v3], [.int 3, .int v3, .ref p0], μ)) rfl ?_
  obtain ⟨h6, hr⟩ := mIf hr
  obtain ⟨q7, h8, hr⟩ := mBi hr
  refine gCall (z := 148) (n := 2) (f := 0) (kind := 1) (a := p0) (As := [.int v3, .int 3]) (y := 200) (is := List.drop 38 mC200) (L := [.ref p0, .int p1, w2, .int v3]) (rest := []) (μ := μ) rfl (by decide) (by decide) ⟨rfl, rfl⟩ rfl h6 (Nat.le_of_ble_eq_true rfl) (Nat.le_of_ble_eq_true rfl) (t148 h8) ?_
  refine gSt1 (L := [.ref p0, .int p1, w2, .int v3]) (q := 3) (w := .int q7) (is := List.drop 39 mC200) (st := []) (μ := μ) rfl (Nat.le_of_ble_eq_true rfl) hw2 ?_
  refine mGo.steps 1 (c' := (200, List.drop 2 mC200, [.ref p0, .int p1, w2, .int q7], [], μ)) rfl ?_
  obtain rfl := Option.some.inj hr
  exact hC w2 hw2
def s200L2 (p0 : Nat) (p1 : Int32) (s : Int32 × mM) : Option ((Int32 × mM) ⊕ ((mM) ⊕ mM)) :=
  if s.1 ≤ 0 then (some (.inr (.inl s.2))) else (if ¬ p1 = 0 then (some (.inr (.inl s.2))) else (if (mS s.2 p0).1 = 9 then (s148 s.2 p0 s.1 6).bind fun q2 => if ¬ q2 = 2 then ((s148 s.2 p0 s.1 6).bind fun q4 => if ¬ q4 = 1 then (s200L2_34 p0 p1 s.2 s.1) else ((s149 s.2 p0 s.1 6 0).bind fun q9 => s200L2_34 p0 p1 q9 s.1)) else ((s149 s.2 p0 s.1 6 3).bind fun q12 => if (mS q12 p0).1 = 9 then (s149 q12 p0 s.1 8 2).bind fun q15 => s200L2_34 p0 p1 q15 s.1 else none) else none))
set_option maxRecDepth 20000 in
theorem t200L2 (p0 : Nat) (p1 : Int32) {r : Option Value × mM} (s : Int32 × mM) (o : ((Int32 × mM) ⊕ ((mM) ⊕ mM))) (hr : s200L2 p0 p1 s = some o) (hC : Sum.elim (fun s' : Int32 × mM => ∀ (w2 : Value) (hw2 : mNotL w2 = true), mGo mG (200, List.drop 2 mC200, [.ref p0, .int p1, w2, .int s'.1], [], s'.2) r) (Sum.elim (fun x : mM => ∀ (w0 : Value) (hw0 : mNotL w0 = true) (w1 : Value) (hw1 : mNotL w1 = true) (w2 : Value) (hw2 : mNotL w2 = true) (w3 : Value) (hw3 : mNotL w3 = true), mGo mG (200, List.drop 40 mC200, [w0, w1, w2, w3], [], x) r) (fun y : mM => r = (none, y))) o) : ∀ (w2 : Value) (hw2 : mNotL w2 = true), mGo mG (200, List.drop 2 mC200, [.ref p0, .int p1, w2, .int s.1], [], s.2) r := by
  intro w2 hw2
  unfold s200L2 at hr
  refine mGo.steps 1 (c' := (200, List.drop 3 mC200, [.ref p0, .int p1, w2, .int s.1], [.int s.1], s.2)) rfl ?_
  rcases mIte hr with ⟨h19, hr⟩ | ⟨h19, hr⟩
  · refine gBrT (p := s.1 ≤ 0) (y := 200) (is := List.drop 4 mC200) (L := [.ref p0, .int p1, w2, .int s.1]) (st := []) (μ := s.2) (t := 69) rfl h19 ?_
    obtain rfl := Option.some.inj hr
    exact hC (.ref p0) rfl (.int p1) rfl w2 hw2 (.int s.1) rfl
  · refine gBrF (p := s.1 ≤ 0) (y := 200) (is := List.drop 4 mC200) (L := [.ref p0, .int p1, w2, .int s.1]) (st := []) (μ := s.2) (t := 69) rfl h19 ?_
    refine mGo.steps 1 (c' := (200, List.drop 5 mC200, [.ref p0, .int p1, w2, .int s.1], [.int p1], s.2)) rfl ?_
    rcases mIte hr with ⟨h18, hr⟩ | ⟨h18, hr⟩
    · refine gBrT (p := ¬ p1 = 0) (y := 200) (is := List.drop 6 mC200) (L := [.ref p0, .int p1, w2, .int s.1]) (st := []) (μ := s.2) (t := 69) rfl h18 ?_
      obtain rfl := Option.some.inj hr
      exact hC (.ref p0) rfl (.int p1) rfl w2 hw2 (.int s.1) rfl
    · refine gBrF (p := ¬ p1 = 0) (y := 200) (is := List.drop 6 mC200) (L := [.ref p0, .int p1, w2, .int s.1]) (st := []) (μ := s.2) (t := 69) rfl h18 ?_
      refine mGo.steps 3 (c' := (200, List.drop 9 mC200, [.ref p0, .int p1, w2, .int s.1], [.int 6, .int s.1, .ref p0], s.2)) rfl ?_
      obtain ⟨h1, hr⟩ := mIf hr
      obtain ⟨q2, h3, hr⟩ := mBi hr
      refine gCall (z := 148) (n := 2) (f := 0) (kind := 1) (a := p0) (As := [.int s.1, .int 6]) (y := 200) (is := List.drop 10 mC200) (L := [.ref p0, .int p1, w2, .int s.1]) (rest := []) (μ := s.2) rfl (by decide) (by decide) ⟨rfl, rfl⟩ rfl h1 (Nat.le_of_ble_eq_true rfl) (Nat.le_of_ble_eq_true rfl) (t148 h3) ?_
      refine mGo.steps 1 (c' := (200, List.drop 11 mC200, [.ref p0, .int p1, w2, .int s.1], [.int 2, .int q2], s.2)) rfl ?_
      rcases mIte hr with ⟨h17, hr⟩ | ⟨h17, hr⟩
      · refine gBrT (p := ¬ q2 = 2) (y := 200) (is := List.drop 12 mC200) (L := [.ref p0, .int p1, w2, .int s.1]) (st := []) (μ := s.2) (t := 40) rfl h17 ?_
        refine mGo.steps 3 (c' := (200, List.drop 26 mC200, [.ref p0, .int p1, w2, .int s.1], [.int 6, .int s.1, .ref p0], s.2)) rfl ?_
        obtain ⟨q4, h5, hr⟩ := mBi hr
        refine gCall (z := 148) (n := 2) (f := 0) (kind := 1) (a := p0) (As := [.int s.1, .int 6]) (y := 200) (is := List.drop 27 mC200) (L := [.ref p0, .int p1, w2, .int s.1]) (rest := []) (μ := s.2) rfl (by decide) (by decide) ⟨rfl, rfl⟩ rfl h1 (Nat.le_of_ble_eq_true rfl) (Nat.le_of_ble_eq_true rfl) (t148 h5) ?_
        refine mGo.steps 1 (c' := (200, List.drop 28 mC200, [.ref p0, .int p1, w2, .int s.1], [.int 1, .int q4], s.2)) rfl ?_
        rcases mIte hr with ⟨h11, hr⟩ | ⟨h11, hr⟩
        · refine gBrT (p := ¬ q4 = 1) (y := 200) (is := List.drop 29 mC200) (L := [.ref p0, .int p1, w2, .int s.1]) (st := []) (μ := s.2) (t := 59) rfl h11 ?_
          exact t200L2_34 p0 p1 s.2 s.1 w2 hw2 hr hC
        · refine gBrF (p := ¬ q4 = 1) (y := 200) (is := List.drop 29 mC200) (L := [.ref p0, .int p1, w2, .int s.1]) (st := []) (μ := s.2) (t := 59) rfl h11 ?_
          refine mGo.steps 4 (c' := (200, List.drop 33 mC200, [.ref p0, .int p1, w2, .int s.1], [.int 0, .int 6, .int s.1, .ref p0], s.2)) rfl ?_
          obtain ⟨q9, h10, hr⟩ := mBi hr
          refine gCall (z := 149) (n := 3) (f := 0) (kind := 1) (a := p0) (As := [.int s.1, .int 6, .int 0]) (y := 200) (is := List.drop 34 mC200) (L := [.ref p0, .int p1, w2, .int s.1]) (rest := []) (μ := s.2) rfl (by decide) (by decide) ⟨rfl, rfl⟩ rfl h1 (Nat.le_of_ble_eq_true rfl) (Nat.le_of_ble_eq_true rfl) (t149 h10) ?_
          exact t200L2_34 p0 p1 q9 s.1 w2 hw2 hr hC
      · refine gBrF (p := ¬ q2 = 2) (y := 200) (is := List.drop 12 mC200) (L := [.ref p0, .int p1, w2, .int s.1]) (st := []) (μ := s.2) (t := 40) rfl h17 ?_
        refine mGo.steps 4 (c' := (200, List.drop 16 mC200, [.ref p0, .int p1, w2, .int s.1], [.int 3, .int 6, .int s.1, .ref p0], s.2)) rfl ?_
        obtain ⟨q12, h13, hr⟩ := mBi hr
        refine gCall (z := 149) (n := 3) (f := 0) (kind := 1) (a := p0) (As := [.int s.1, .int 6, .int 3]) (y := 200) (is := List.drop 17 mC200) (L := [.ref p0, .int p1, w2, .int s.1]) (rest := []) (μ := s.2) rfl (by decide) (by decide) ⟨rfl, rfl⟩ rfl h1 (Nat.le_of_ble_eq_true rfl) (Nat.le_of_ble_eq_true rfl) (t149 h13) ?_
        refine mGo.steps 4 (c' := (200, List.drop 21 mC200, [.ref p0, .int p1, w2, .int s.1], [.int 2, .int 8, .int s.1, .ref p0], q12)) rfl ?_
        obtain ⟨h14, hr⟩ := mIf hr
        obtain ⟨q15, h16, hr⟩ := mBi hr
        refine gCall (z := 149) (n := 3) (f := 0) (kind := 1) (a := p0) (As := [.int s.1, .int 8, .int 2]) (y := 200) (is := List.drop 22 mC200) (L := [.ref p0, .int p1, w2, .int s.1]) (rest := []) (μ := q12) rfl (by decide) (by decide) ⟨rfl, rfl⟩ rfl h14 (Nat.le_of_ble_eq_true rfl) (Nat.le_of_ble_eq_true rfl) (t149 h16) ?_
        refine mGo.steps 1 (c' := (200, List.drop 34 mC200, [.ref p0, .int p1, w2, .int s.1], [], q15)) rfl ?_
        exact t200L2_34 p0 p1 q15 s.1 w2 hw2 hr hC
theorem t200L2l (p0 : Nat) (p1 : Int32) {r : Option Value × mM} (n : Nat) (s : Int32 × mM) (o : (mM) ⊕ mM) (hr : mLoop (s200L2 p0 p1) n s = some o) (hC : Sum.elim (fun x : mM => ∀ (w0 : Value) (hw0 : mNotL w0 = true) (w1 : Value) (hw1 : mNotL w1 = true) (w2 : Value) (hw2 : mNotL w2 = true) (w3 : Value) (hw3 : mNotL w3 = true), mGo mG (200, List.drop 40 mC200, [w0, w1, w2, w3], [], x) r) (fun y : mM => r = (none, y)) o) : ∀ (w2 : Value) (hw2 : mNotL w2 = true), mGo mG (200, List.drop 2 mC200, [.ref p0, .int p1, w2, .int s.1], [], s.2) r :=
  mLoop_go (Hd := (fun s' : Int32 × mM => ∀ (w2 : Value) (hw2 : mNotL w2 = true), mGo mG (200, List.drop 2 mC200, [.ref p0, .int p1, w2, .int s'.1], [], s'.2) r)) (fun s o hb hC => t200L2 p0 p1 s o hb hC) n s o hr hC
def s200_40 (a0 : Nat) (a1 : Int32) (a2 : Int32) (μ : mM) : Option mM :=
  some μ
set_option maxRecDepth 20000 in
theorem t200_40 (a0 : Nat) (a1 : Int32) (a2 : Int32) (μ : mM) (w0 : Value) (hw0 : mNotL w0 = true) (w1 : Value) (hw1 : mNotL w1 = true) (w2 : Value) (hw2 : mNotL w2 = true) (w3 : Value) (hw3 : mNotL w3 = true) {o : mM} {r : Option Value × mM} (hr : s200_40 a0 a1 a2 μ = some o) (hC : r = (none, o)) : mGo mG (200, List.drop 40 mC200, [w0, w1, w2, w3], [], μ) r := by
  unfold s200_40 at hr
  obtain rfl := Option.some.inj hr
  rw [show r = _ from hC]
  exact gVret rfl
def s200 (μ : mM) (a0 : Nat) (a1 : Int32) (a2 : Int32) : Option mM :=
  (mLoop (s200L2 a0 a1) 1000 (a2, μ)).bind fun o20 => Sum.elim (fun x21 => s200_40 a0 a1 a2 x21) (fun y22 => some y22) o20
set_option maxRecDepth 20000 in
theorem t200 {μ : mM} {a0 : Nat} {a1 : Int32} {a2 : Int32} {o : mM} (hr : s200 μ a0 a1 a2 = some o) : mEv mG 200 [.ref a0, .int a1, .int a2] μ (none) (o) := by
  obtain ⟨r, hC⟩ : ∃ r : Option Value × mM, r = (none, o) := ⟨_, rfl⟩
  show mGo mG (200, List.drop 0 mC200, [.ref a0, .int a1, .int a2, .retAddr 0], [], μ) (none, o)
  rw [← hC]
  unfold s200 at hr
  refine mGo.steps 2 (c' := (200, List.drop 2 mC200, [.ref a0, .int a1, .int a2, .int a2], [], μ)) rfl ?_
  obtain ⟨o20, h23, hr⟩ := mBi hr
  refine t200L2l a0 a1 1000 (a2, μ) o20 h23 ?_ (.int a2) rfl
  cases o20 with
  | inl x21 =>
    show ∀ (w0 : Value) (hw0 : mNotL w0 = true) (w1 : Value) (hw1 : mNotL w1 = true) (w2 : Value) (hw2 : mNotL w2 = true) (w3 : Value) (hw3 : mNotL w3 = true), mGo mG (200, List.drop 40 mC200, [w0, w1, w2, w3], [], x21) r
    intro w0 hw0 w1 hw1 w2 hw2 w3 hw3
    replace hr : (_) = some _ := hr
    exact t200_40 a0 a1 a2 x21 w0 hw0 w1 hw1 w2 hw2 w3 hw3 hr hC
  | inr y22 =>
    obtain rfl := Option.some.inj hr
    exact hC
