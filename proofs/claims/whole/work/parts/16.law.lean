/-! 242: TunnelFabricLaw.law([I)Z -/
def s242L10_738 (p0 : Nat) (p1 : Nat) (p2 : Nat) (μ : mM) (v3 : Int32) : Option ((Int32 × mM) ⊕ ((mM) ⊕ (Int32 × mM))) :=
  some (.inl (v3 + 5, μ))
set_option maxRecDepth 20000 in
theorem t242L10_738 (p0 : Nat) (p1 : Nat) (p2 : Nat) (μ : mM) (v3 : Int32) {o : ((Int32 × mM) ⊕ ((mM) ⊕ (Int32 × mM)))} {r : Option Value × mM} (hr : s242L10_738 p0 p1 p2 μ v3 = some o) (hC : Sum.elim (fun s' : Int32 × mM => mGo mG (242, List.drop 10 mC242, [.ref p0, .ref p1, .ref p2, .int s'.1], [], s'.2) r) (Sum.elim (fun x : mM => ∀ (w0 : Value) (hw0 : mNotL w0 = true) (w1 : Value) (hw1 : mNotL w1 = true) (w2 : Value) (hw2 : mNotL w2 = true) (w3 : Value) (hw3 : mNotL w3 = true), mGo mG (242, List.drop 740 mC242, [w0, w1, w2, w3], [], x) r) (fun y : (Int32 × mM) => r = (some (.int y.1), y.2))) o) : mGo mG (242, List.drop 738 mC242, [.ref p0, .ref p1, .ref p2, .int v3], [], μ) r := by
  unfold s242L10_738 at hr
  refine mGo.steps 2 (c' := (242, List.drop 10 mC242, [.ref p0, .ref p1, .ref p2, .int (v3 + 5)], [], μ)) rfl ?_
  obtain rfl := Option.some.inj hr
  exact hC
def s242L10_155 (p0 : Nat) (p1 : Nat) (p2 : Nat) (μ : mM) (v3 : Int32) (t0 : Int32) (t1 : Int32) (t2 : Nat) (t3 : Int32) : Option ((Int32 × mM) ⊕ ((mM) ⊕ (Int32 × mM))) :=
  if (mS μ t2).1 = 9 then (s187 μ t2 t1 t0).bind fun q79 => if t3 = q79.1 then (s242L10_738 p0 p1 p2 q79.2 v3) else (some (.inr (.inr (0, q79.2)))) else none
set_option maxRecDepth 20000 in
theorem t242L10_155 (p0 : Nat) (p1 : Nat) (p2 : Nat) (μ : mM) (v3 : Int32) (t0 : Int32) (t1 : Int32) (t2 : Nat) (t3 : Int32) {o : ((Int32 × mM) ⊕ ((mM) ⊕ (Int32 × mM)))} {r : Option Value × mM} (hr : s242L10_155 p0 p1 p2 μ v3 t0 t1 t2 t3 = some o) (hC : Sum.elim (fun s' : Int32 × mM => mGo mG (242, List.drop 10 mC242, [.ref p0, .ref p1, .ref p2, .int s'.1], [], s'.2) r) (Sum.elim (fun x : mM => ∀ (w0 : Value) (hw0 : mNotL w0 = true) (w1 : Value) (hw1 : mNotL w1 = true) (w2 : Value) (hw2 : mNotL w2 = true) (w3 : Value) (hw3 : mNotL w3 = true), mGo mG (242, List.drop 740 mC242, [w0, w1, w2, w3], [], x) r) (fun y : (Int32 × mM) => r = (some (.int y.1), y.2))) o) : mGo mG (242, List.drop 155 mC242, [.ref p0, .ref p1, .ref p2, .int v3], [.int t0, .int t1, .ref t2, .int t3], μ) r := by
  unfold s242L10_155 at hr
  obtain ⟨h78, hr⟩ := mIf hr
  obtain ⟨q79, h80, hr⟩ := mBi hr
  refine gCall (z := 187) (n := 2) (f := 0) (kind := 1) (a := t2) (As := [.int t1, .int t0]) (y := 242) (is := List.drop 156 mC242) (L := [.ref p0, .ref p1, .ref p2, .int v3]) (rest := [.int t3]) (μ := μ) rfl (by decide) (by decide) ⟨rfl, rfl⟩ rfl h78 (Nat.le_of_ble_eq_true rfl) (Nat.le_of_ble_eq_true rfl) (t187 h80) ?_
  rcases mIte hr with ⟨h81, hr⟩ | ⟨h81, hr⟩
  · refine gBrT (p := t3 = q79.1) (y := 242) (is := List.drop 157 mC242) (L := [.ref p0, .ref p1, .ref p2, .int v3]) (st := []) (μ := q79.2) (t := 1082) rfl h81 ?_
    exact t242L10_738 p0 p1 p2 q79.2 v3 hr hC
  · refine gBrF (p := t3 = q79.1) (y := 242) (is := List.drop 157 mC242) (L := [.ref p0, .ref p1, .ref p2, .int v3]) (st := []) (μ := q79.2) (t := 1082) rfl h81 ?_
    refine mGo.steps 1 (c' := (242, List.drop 158 mC242, [.ref p0, .ref p1, .ref p2, .int v3], [.int 0], q79.2)) rfl ?_
    obtain rfl := Option.some.inj hr
    rw [show r = _ from hC]
    exact gZret rfl (by decide)
def s242L10_139 (p0 : Nat) (p1 : Nat) (p2 : Nat) (μ : mM) (v3 : Int32) (t0 : Int32) (t1 : Int32) (t2 : Nat) : Option ((Int32 × mM) ⊕ ((mM) ⊕ (Int32 × mM))) :=
  if (mS μ t2).1 = 8 then (s103 μ t2 t1 t0).bind fun q74 => if (mS q74.2 p0).1 = 98 ∧ mInb (v3 + 1) (mS q74.2 p0).2 then if (mS q74.2 p0).1 = 98 ∧ mInb (v3 + 2) (mS q74.2 p0).2 then if (mI q74.2 p0 (Int32.toNatClampNeg (v3 + 2))) = 0 then (s242L10_155 p0 p1 p2 q74.2 v3 0 (mI q74.2 p0 (Int32.toNatClampNeg (v3 + 1))) p2 q74.1) else (s242L10_155 p0 p1 p2 q74.2 v3 1 (mI q74.2 p0 (Int32.toNatClampNeg (v3 + 1))) p2 q74.1) else none else none else none
set_option maxRecDepth 20000 in
theorem t242L10_139 (p0 : Nat) (p1 : Nat) (p2 : Nat) (μ : mM) (v3 : Int32) (t0 : Int32) (t1 : Int32) (t2 : Nat) {o : ((Int32 × mM) ⊕ ((mM) ⊕ (Int32 × mM)))} {r : Option Value × mM} (hr : s242L10_139 p0 p1 p2 μ v3 t0 t1 t2 = some o) (hC : Sum.elim (fun s' : Int32 × mM => mGo mG (242, List.drop 10 mC242, [.ref p0, .ref p1, .ref p2, .int s'.1], [], s'.2) r) (Sum.elim (fun x : mM => ∀ (w0 : Value) (hw0 : mNotL w0 = true) (w1 : Value) (hw1 : mNotL w1 = true) (w2 : Value) (hw2 : mNotL w2 = true) (w3 : Value) (hw3 : mNotL w3 = true), mGo mG (242, List.drop 740 mC242, [w0, w1, w2, w3], [], x) r) (fun y : (Int32 × mM) => r = (some (.int y.1), y.2))) o) : mGo mG (242, List.drop 139 mC242, [.ref p0, .ref p1, .ref p2, .int v3], [.int t0, .int t1, .ref t2], μ) r := by
  unfold s242L10_139 at hr
  obtain ⟨h73, hr⟩ := mIf hr
  obtain ⟨q74, h75, hr⟩ := mBi hr
  refine gCall (z := 103) (n := 2) (f := 0) (kind := 1) (a := t2) (As := [.int t1, .int t0]) (y := 242) (is := List.drop 140 mC242) (L := [.ref p0, .ref p1, .ref p2, .int v3]) (rest := []) (μ := μ) rfl (by decide) (by decide) ⟨rfl, rfl⟩ rfl h73 (Nat.le_of_ble_eq_true rfl) (Nat.le_of_ble_eq_true rfl) (t103 h75) ?_
  refine mGo.steps 5 (c' := (242, List.drop 145 mC242, [.ref p0, .ref p1, .ref p2, .int v3], [.int (v3 + 1), .ref p0, .ref p2, .int q74.1], q74.2)) rfl ?_
  obtain ⟨h76, hr⟩ := mIf hr
  refine gSald (is := List.drop 146 mC242) h76 ?_
  refine mGo.steps 4 (c' := (242, List.drop 150 mC242, [.ref p0, .ref p1, .ref p2, .int v3], [.int (v3 + 2), .ref p0, .int (mI q74.2 p0 (Int32.toNatClampNeg (v3 + 1))), .ref p2, .int q74.1], q74.2)) rfl ?_
  obtain ⟨h77, hr⟩ := mIf hr
  refine gSald (is := List.drop 151 mC242) h77 ?_
  rcases mIte hr with ⟨h82, hr⟩ | ⟨h82, hr⟩
  · refine gBrT (p := (mI q74.2 p0 (Int32.toNatClampNeg (v3 + 2))) = 0) (y := 242) (is := List.drop 152 mC242) (L := [.ref p0, .ref p1, .ref p2, .int v3]) (st := [.int (mI q74.2 p0 (Int32.toNatClampNeg (v3 + 1))), .ref p2, .int q74.1]) (μ := q74.2) (t := 350) rfl h82 ?_
    refine mGo.steps 1 (c' := (242, List.drop 155 mC242, [.ref p0, .ref p1, .ref p2, .int v3], [.int 0, .int (mI q74.2 p0 (Int32.toNatClampNeg (v3 + 1))), .ref p2, .int q74.1], q74.2)) rfl ?_
    exact t242L10_155 p0 p1 p2 q74.2 v3 0 (mI q74.2 p0 (Int32.toNatClampNeg (v3 + 1))) p2 q74.1 hr hC
  · refine gBrF (p := (mI q74.2 p0 (Int32.toNatClampNeg (v3 + 2))) = 0) (y := 242) (is := List.drop 152 mC242) (L := [.ref p0, .ref p1, .ref p2, .int v3]) (st := [.int (mI q74.2 p0 (Int32.toNatClampNeg (v3 + 1))), .ref p2, .int q74.1]) (μ := q74.2) (t := 350) rfl h82 ?_
    refine mGo.steps 2 (c' := (242, List.drop 155 mC242, [.ref p0, .ref p1, .ref p2, .int v3], [.int 1, .int (mI q74.2 p0 (Int32.toNatClampNeg (v3 + 1))), .ref p2, .int q74.1], q74.2)) rfl ?_
    exact t242L10_155 p0 p1 p2 q74.2 v3 1 (mI q74.2 p0 (Int32.toNatClampNeg (v3 + 1))) p2 q74.1 hr hC
def s242L10 (p0 : Nat) (p1 : Nat) (p2 : Nat) (s : Int32 × mM) : Option ((Int32 × mM) ⊕ ((mM) ⊕ (Int32 × mM))) :=
  if (mS s.2 p0).1 = 98 then if ((Int32.ofNat (mS s.2 p0).2) - 5) < s.1 then (some (.inr (.inl s.2))) else (if (mS s.2 p0).1 = 98 ∧ mInb s.1 (mS s.2 p0).2 then if ((mI s.2 p0 (Int32.toNatClampNeg s.1)) &&& 31) = 0 then (if (mS s.2 p0).1 = 98 ∧ mInb (s.1 + 1) (mS s.2 p0).2 then if (mS s.2 p1).1 = 8 then (s97 s.2 p1 (mI s.2 p0 (Int32.toNatClampNeg (s.1 + 1)))).bind fun q13 => if (mS q13.2 p0).1 = 98 ∧ mInb (s.1 + 1) (mS q13.2 p0).2 then if (mS q13.2 p2).1 = 9 then (s178 q13.2 p2 (mI q13.2 p0 (Int32.toNatClampNeg (s.1 + 1)))).bind fun q17 => if q13.1 = q17.1 then (s242L10_738 p0 p1 p2 q17.2 s.1) else (some (.inr (.inr (0, q17.2)))) else none else none else none else none) else (if ((mI s.2 p0 (Int32.toNatClampNeg s.1)) &&& 31) = 1 then (if (mS s.2 p1).1 = 8 then (s98 s.2 p1).bind fun q22 => if (mS q22.2 p2).1 = 9 then (s179 q22.2 p2).bind fun q25 => if q22.1 = q25.1 then (s242L10_738 p0 p1 p2 q25.2 s.1) else (some (.inr (.inr (0, q25.2)))) else none else none) else (if ((mI s.2 p0 (Int32.toNatClampNeg s.1)) &&& 31) = 2 then (if (mS s.2 p1).1 = 8 then (s99 s.2 p1).bind fun q30 => if (mS q30.2 p2).1 = 9 then (s177 q30.2 p2).bind fun q33 => if q30.1 = q33.1 then (s242L10_738 p0 p1 p2 q33.2 s.1) else (some (.inr (.inr (0, q33.2)))) else none else none) else (if ((mI s.2 p0 (Int32.toNatClampNeg s.1)) &&& 31) = 3 then (if (mS s.2 p1).1 = 8 then (s100 s.2 p1).bind fun q38 => if (mS q38.2 p2).1 = 9 then (s181 q38.2 p2).bind fun q41 => if q38.1 = q41.1 then (s242L10_738 p0 p1 p2 q41.2 s.1) else (some (.inr (.inr (0, q41.2)))) else none else none) else (if ((mI s.2 p0 (Int32.toNatClampNeg s.1)) &&& 31) = 4 then (if (mS s.2 p0).1 = 98 ∧ mInb (s.1 + 1) (mS s.2 p0).2 then if (mS s.2 p0).1 = 98 ∧ mInb (s.1 + 2) (mS s.2 p0).2 then if (mS s.2 p0).1 = 98 ∧ mInb (s.1 + 3) (mS s.2 p0).2 then if (mS s.2 p0).1 = 98 ∧ mInb (s.1 + 4) (mS s.2 p0).2 then if (mS s.2 p1).1 = 8 then (s101 s.2 p1 (mI s.2 p0 (Int32.toNatClampNeg (s.1 + 1))) (mI s.2 p0 (Int32.toNatClampNeg (s.1 + 2))) (mI s.2 p0 (Int32.toNatClampNeg (s.1 + 3))) (mI s.2 p0 (Int32.toNatClampNeg (s.1 + 4)))).bind fun q50 => if (mS q50.2 p0).1 = 98 ∧ mInb (s.1 + 1) (mS q50.2 p0).2 then if (mS q50.2 p0).1 = 98 ∧ mInb (s.1 + 2) (mS q50.2 p0).2 then if (mS q50.2 p0).1 = 98 ∧ mInb (s.1 + 3) (mS q50.2 p0).2 then if (mS q50.2 p0).1 = 98 ∧ mInb (s.1 + 4) (mS q50.2 p0).2 then if (mS q50.2 p2).1 = 9 then (s184 q50.2 p2 (mI q50.2 p0 (Int32.toNatClampNeg (s.1 + 1))) (mI q50.2 p0 (Int32.toNatClampNeg (s.1 + 2))) (mI q50.2 p0 (Int32.toNatClampNeg (s.1 + 3))) (mI q50.2 p0 (Int32.toNatClampNeg (s.1 + 4)))).bind fun q57 => if q50.1 = q57.1 then (s242L10_738 p0 p1 p2 q57.2 s.1) else (some (.inr (.inr (0, q57.2)))) else none else none else none else none else none else none else none else none else none else none) else (if ((mI s.2 p0 (Int32.toNatClampNeg s.1)) &&& 31) = 5 then (if (mS s.2 p0).1 = 98 ∧ mInb (s.1 + 1) (mS s.2 p0).2 then if (mS s.2 p1).1 = 8 then (s102 s.2 p1 (mI s.2 p0 (Int32.toNatClampNeg (s.1 + 1)))).bind fun q63 => if (mS q63.2 p0).1 = 98 ∧ mInb (s.1 + 1) (mS q63.2 p0).2 then if (mS q63.2 p2).1 = 9 then (s186 q63.2 p2 (mI q63.2 p0 (Int32.toNatClampNeg (s.1 + 1)))).bind fun q67 => if q63.1 = q67.1 then (s242L10_738 p0 p1 p2 q67.2 s.1) else (some (.inr (.inr (0, q67.2)))) else none else none else none else none) else (if ((mI s.2 p0 (Int32.toNatClampNeg s.1)) &&& 31) = 6 then (if (mS s.2 p0).1 = 98 ∧ mInb (s.1 + 1) (mS s.2 p0).2 then if (mS s.2 p0).1 = 98 ∧ mInb (s.1 + 2) (mS s.2 p0).2 then if (mI s.2 p0 (Int32.toNatClampNeg (s.1 + 2))) = 0 then (s242L10_139 p0 p1 p2 s.2 s.1 0 (mI s.2 p0 (Int32.toNatClampNeg (s.1 + 1))) p1) else (s242L10_139 p0 p1 p2 s.2 s.1 1 (mI s.2 p0 (Int32.toNatClampNeg (s.1 + 1))) p1) else none else none) else (if ((mI s.2 p0 (Int32.toNatClampNeg s.1)) &&& 31) = 7 then (if (mS s.2 p0).1 = 98 ∧ mInb (s.1 + 1) (mS s.2 p0).2 then if (mS s.2 p0).1 = 98 ∧ mInb (s.1 + 2) (mS s.2 p0).2 then if (mS s.2 p1).1 = 8 then (s104 s.2 p1 (mI s.2 p0 (Int32.toNatClampNeg (s.1 + 1))) (mI s.2 p0 (Int32.toNatClampNeg (s.1 + 2)))).bind fun q88 => if (mS s.2 p2).1 = 9 then (s188 s.2 p2 (mI s.2 p0 (Int32.toNatClampNeg (s.1 + 1))) (mI s.2 p0 (Int32.toNatClampNeg (s.1 + 2)))).bind fun q91 => if q88 = q91 then (s242L10_738 p0 p1 p2 s.2 s.1) else (some (.inr (.inr (0, s.2)))) else none else none else none else none) else (if ((mI s.2 p0 (Int32.toNatClampNeg s.1)) &&& 31) = 8 then (if (mS s.2 p0).1 = 98 ∧ mInb (s.1 + 1) (mS s.2 p0).2 then if (mS s.2 p0).1 = 98 ∧ mInb (s.1 + 2) (mS s.2 p0).2 then if (mS s.2 p1).1 = 8 then (s105 s.2 p1 (mI s.2 p0 (Int32.toNatClampNeg (s.1 + 1))) (mI s.2 p0 (Int32.toNatClampNeg (s.1 + 2)))).bind fun q98 => if (mS s.2 p2).1 = 9 then (s189 s.2 p2 (mI s.2 p0 (Int32.toNatClampNeg (s.1 + 1))) (mI s.2 p0 (Int32.toNatClampNeg (s.1 + 2)))).bind fun q101 => if q98 = q101 then (s242L10_738 p0 p1 p2 s.2 s.1) else (some (.inr (.inr (0, s.2)))) else none else none else none else none) else (if ((mI s.2 p0 (Int32.toNatClampNeg s.1)) &&& 31) = 9 then (if (mS s.2 p0).1 = 98 ∧ mInb (s.1 + 1) (mS s.2 p0).2 then if (mS s.2 p0).1 = 98 ∧ mInb (s.1 + 2) (mS s.2 p0).2 then if (mS s.2 p1).1 = 8 then (s106 s.2 p1 (mI s.2 p0 (Int32.toNatClampNeg (s.1 + 1))) (mI s.2 p0 (Int32.toNatClampNeg (s.1 + 2)))).bind fun q108 => if (mS s.2 p2).1 = 9 then (s190 s.2 p2 (mI s.2 p0 (Int32.toNatClampNeg (s.1 + 1))) (mI s.2 p0 (Int32.toNatClampNeg (s.1 + 2)))).bind fun q111 => if q108 = q111 then (s242L10_738 p0 p1 p2 s.2 s.1) else (some (.inr (.inr (0, s.2)))) else none else none else none else none) else (if ((mI s.2 p0 (Int32.toNatClampNeg s.1)) &&& 31) = 10 then (if (mS s.2 p0).1 = 98 ∧ mInb (s.1 + 1) (mS s.2 p0).2 then if (mS s.2 p0).1 = 98 ∧ mInb (s.1 + 2) (mS s.2 p0).2 then if (mS s.2 p1).1 = 8 then (s107 s.2 p1 (mI s.2 p0 (Int32.toNatClampNeg (s.1 + 1))) (mI s.2 p0 (Int32.toNatClampNeg (s.1 + 2)))).bind fun q118 => if (mS s.2 p2).1 = 9 then (s192 s.2 p2 (mI s.2 p0 (Int32.toNatClampNeg (s.1 + 1))) (mI s.2 p0 (Int32.toNatClampNeg (s.1 + 2)))).bind fun q121 => if q118 = q121 then (s242L10_738 p0 p1 p2 s.2 s.1) else (some (.inr (.inr (0, s.2)))) else none else none else none else none) else (if ((mI s.2 p0 (Int32.toNatClampNeg s.1)) &&& 31) = 11 then (if (mS s.2 p0).1 = 98 ∧ mInb (s.1 + 1) (mS s.2 p0).2 then if (mS s.2 p0).1 = 98 ∧ mInb (s.1 + 2) (mS s.2 p0).2 then if (mS s.2 p1).1 = 8 then (s108 s.2 p1 (mI s.2 p0 (Int32.toNatClampNeg (s.1 + 1))) (mI s.2 p0 (Int32.toNatClampNeg (s.1 + 2)))).bind fun q128 => if (mS s.2 p2).1 = 9 then (s193 s.2 p2 (mI s.2 p0 (Int32.toNatClampNeg (s.1 + 1))) (mI s.2 p0 (Int32.toNatClampNeg (s.1 + 2)))).bind fun q131 => if q128 = q131 then (s242L10_738 p0 p1 p2 s.2 s.1) else (some (.inr (.inr (0, s.2)))) else none else none else none else none) else (if ((mI s.2 p0 (Int32.toNatClampNeg s.1)) &&& 31) = 12 then (if (mS s.2 p0).1 = 98 ∧ mInb (s.1 + 1) (mS s.2 p0).2 then if (mS s.2 p0).1 = 98 ∧ mInb (s.1 + 2) (mS s.2 p0).2 then if (mS s.2 p1).1 = 8 then (s109 s.2 p1 (mI s.2 p0 (Int32.toNatClampNeg (s.1 + 1))) (mI s.2 p0 (Int32.toNatClampNeg (s.1 + 2)))).bind fun q138 => if (mS s.2 p2).1 = 9 then (s195 s.2 p2 (mI s.2 p0 (Int32.toNatClampNeg (s.1 + 1))) (mI s.2 p0 (Int32.toNatClampNeg (s.1 + 2)))).bind fun q141 => if q138 = q141 then (s242L10_738 p0 p1 p2 s.2 s.1) else (some (.inr (.inr (0, s.2)))) else none else none else none else none) else (if ((mI s.2 p0 (Int32.toNatClampNeg s.1)) &&& 31) = 13 then (if (mS s.2 p0).1 = 98 ∧ mInb (s.1 + 1) (mS s.2 p0).2 then if (mS s.2 p0).1 = 98 ∧ mInb (s.1 + 2) (mS s.2 p0).2 then if (mS s.2 p0).1 = 98 ∧ mInb (s.1 + 3) (mS s.2 p0).2 then if (mS s.2 p1).1 = 8 then (s110 s.2 p1 (mI s.2 p0 (Int32.toNatClampNeg (s.1 + 1))) (mI s.2 p0 (Int32.toNatClampNeg (s.1 + 2))) (mI s.2 p0 (Int32.toNatClampNeg (s.1 + 3)))).bind fun q149 => if (mS q149.2 p0).1 = 98 ∧ mInb (s.1 + 1) (mS q149.2 p0).2 then if (mS q149.2 p0).1 = 98 ∧ mInb (s.1 + 2) (mS q149.2 p0).2 then if (mS q149.2 p0).1 = 98 ∧ mInb (s.1 + 3) (mS q149.2 p0).2 then if (mS q149.2 p2).1 = 9 then (s198 q149.2 p2 (mI q149.2 p0 (Int32.toNatClampNeg (s.1 + 1))) (mI q149.2 p0 (Int32.toNatClampNeg (s.1 + 2))) (mI q149.2 p0 (Int32.toNatClampNeg (s.1 + 3)))).bind fun q155 => if q149.1 = q155.1 then (s242L10_738 p0 p1 p2 q155.2 s.1) else (some (.inr (.inr (0, q155.2)))) else none else none else none else none else none else none else none else none) else (if ((mI s.2 p0 (Int32.toNatClampNeg s.1)) &&& 31) = 14 then (if (mS s.2 p0).1 = 98 ∧ mInb (s.1 + 1) (mS s.2 p0).2 then if (mS s.2 p1).1 = 8 then (s111 s.2 p1 (mI s.2 p0 (Int32.toNatClampNeg (s.1 + 1)))).bind fun q161 => if (mS q161.2 p0).1 = 98 ∧ mInb (s.1 + 1) (mS q161.2 p0).2 then if (mS q161.2 p2).1 = 9 then (s201 q161.2 p2 (mI q161.2 p0 (Int32.toNatClampNeg (s.1 + 1)))).bind fun q165 => if q161.1 = q165.1 then (s242L10_738 p0 p1 p2 q165.2 s.1) else (some (.inr (.inr (0, q165.2)))) else none else none else none else none) else (if ((mI s.2 p0 (Int32.toNatClampNeg s.1)) &&& 31) = 15 then (if (mS s.2 p0).1 = 98 ∧ mInb (s.1 + 1) (mS s.2 p0).2 then if (mS s.2 p0).1 = 98 ∧ mInb (s.1 + 2) (mS s.2 p0).2 then if (mS s.2 p1).1 = 8 then (s112 s.2 p1 (mI s.2 p0 (Int32.toNatClampNeg (s.1 + 1))) (mI s.2 p0 (Int32.toNatClampNeg (s.1 + 2)))).bind fun q172 => if (mS q172.2 p0).1 = 98 ∧ mInb (s.1 + 1) (mS q172.2 p0).2 then if (mS q172.2 p0).1 = 98 ∧ mInb (s.1 + 2) (mS q172.2 p0).2 then if (mS q172.2 p2).1 = 9 then (s202 q172.2 p2 (mI q172.2 p0 (Int32.toNatClampNeg (s.1 + 1))) (mI q172.2 p0 (Int32.toNatClampNeg (s.1 + 2)))).bind fun q177 => if q172.1 = q177.1 then (s242L10_738 p0 p1 p2 q177.2 s.1) else (some (.inr (.inr (0, q177.2)))) else none else none else none else none else none else none) else (if ((mI s.2 p0 (Int32.toNatClampNeg s.1)) &&& 31) = 16 then (if (mS s.2 p0).1 = 98 ∧ mInb (s.1 + 1) (mS s.2 p0).2 then if (mS s.2 p0).1 = 98 ∧ mInb (s.1 + 2) (mS s.2 p0).2 then if (mS s.2 p0).1 = 98 ∧ mInb (s.1 + 3) (mS s.2 p0).2 then if (mS s.2 p1).1 = 8 then (s113 s.2 p1 (mI s.2 p0 (Int32.toNatClampNeg (s.1 + 1))) (mI s.2 p0 (Int32.toNatClampNeg (s.1 + 2))) (mI s.2 p0 (Int32.toNatClampNeg (s.1 + 3)))).bind fun q185 => if (mS q185.2 p0).1 = 98 ∧ mInb (s.1 + 1) (mS q185.2 p0).2 then if (mS q185.2 p0).1 = 98 ∧ mInb (s.1 + 2) (mS q185.2 p0).2 then if (mS q185.2 p0).1 = 98 ∧ mInb (s.1 + 3) (mS q185.2 p0).2 then if (mS q185.2 p2).1 = 9 then (s204 q185.2 p2 (mI q185.2 p0 (Int32.toNatClampNeg (s.1 + 1))) (mI q185.2 p0 (Int32.toNatClampNeg (s.1 + 2))) (mI q185.2 p0 (Int32.toNatClampNeg (s.1 + 3)))).bind fun q191 => if q185.1 = q191.1 then (s242L10_738 p0 p1 p2 q191.2 s.1) else (some (.inr (.inr (0, q191.2)))) else none else none else none else none else none else none else none else none) else (if ((mI s.2 p0 (Int32.toNatClampNeg s.1)) &&& 31) = 17 then (if (mS s.2 p0).1 = 98 ∧ mInb (s.1 + 1) (mS s.2 p0).2 then if (mS s.2 p0).1 = 98 ∧ mInb (s.1 + 2) (mS s.2 p0).2 then if (mS s.2 p1).1 = 8 then (s114 s.2 p1 (mI s.2 p0 (Int32.toNatClampNeg (s.1 + 1))) (mI s.2 p0 (Int32.toNatClampNeg (s.1 + 2)))).bind fun q198 => if (mS s.2 p2).1 = 9 then (s205 s.2 p2 (mI s.2 p0 (Int32.toNatClampNeg (s.1 + 1))) (mI s.2 p0 (Int32.toNatClampNeg (s.1 + 2)))).bind fun q201 => if q198 = q201 then (s242L10_738 p0 p1 p2 s.2 s.1) else (some (.inr (.inr (0, s.2)))) else none else none else none else none) else (if ((mI s.2 p0 (Int32.toNatClampNeg s.1)) &&& 31) = 18 then (if (mS s.2 p0).1 = 98 ∧ mInb (s.1 + 1) (mS s.2 p0).2 then if (mS s.2 p0).1 = 98 ∧ mInb (s.1 + 2) (mS s.2 p0).2 then if (mS s.2 p0).1 = 98 ∧ mInb (s.1 + 3) (mS s.2 p0).2 then if (mS s.2 p0).1 = 98 ∧ mInb (s.1 + 4) (mS s.2 p0).2 then if (mS s.2 p1).1 = 8 then (s115 s.2 p1 (mI s.2 p0 (Int32.toNatClampNeg (s.1 + 1))) (mI s.2 p0 (Int32.toNatClampNeg (s.1 + 2))) (mI s.2 p0 (Int32.toNatClampNeg (s.1 + 3))) (mI s.2 p0 (Int32.toNatClampNeg (s.1 + 4)))).bind fun q210 => if (mS s.2 p2).1 = 9 then (s206 s.2 p2 (mI s.2 p0 (Int32.toNatClampNeg (s.1 + 1))) (mI s.2 p0 (Int32.toNatClampNeg (s.1 + 2))) (mI s.2 p0 (Int32.toNatClampNeg (s.1 + 3))) (mI s.2 p0 (Int32.toNatClampNeg (s.1 + 4)))).bind fun q213 => if q210 = q213 then (s242L10_738 p0 p1 p2 s.2 s.1) else (some (.inr (.inr (0, s.2)))) else none else none else none else none else none else none) else (if ((mI s.2 p0 (Int32.toNatClampNeg s.1)) &&& 31) = 19 then (if (mS s.2 p0).1 = 98 ∧ mInb (s.1 + 1) (mS s.2 p0).2 then if (mS s.2 p0).1 = 98 ∧ mInb (s.1 + 2) (mS s.2 p0).2 then if (mS s.2 p0).1 = 98 ∧ mInb (s.1 + 3) (mS s.2 p0).2 then if (mS s.2 p1).1 = 8 then (s116 s.2 p1 (mI s.2 p0 (Int32.toNatClampNeg (s.1 + 1))) (mI s.2 p0 (Int32.toNatClampNeg (s.1 + 2))) (mI s.2 p0 (Int32.toNatClampNeg (s.1 + 3)))).bind fun q221 => if (mS s.2 p2).1 = 9 then (s207 s.2 p2 (mI s.2 p0 (Int32.toNatClampNeg (s.1 + 1))) (mI s.2 p0 (Int32.toNatClampNeg (s.1 + 2))) (mI s.2 p0 (Int32.toNatClampNeg (s.1 + 3)))).bind fun q224 => if q221 = q224 then (s242L10_738 p0 p1 p2 s.2 s.1) else (some (.inr (.inr (0, s.2)))) else none else none else none else none else none) else (if ((mI s.2 p0 (Int32.toNatClampNeg s.1)) &&& 31) = 20 then (if (mS s.2 p0).1 = 98 ∧ mInb (s.1 + 1) (mS s.2 p0).2 then if (mS s.2 p1).1 = 8 then (s117 s.2 p1 (mI s.2 p0 (Int32.toNatClampNeg (s.1 + 1)))).bind fun q230 => if (mS q230.2 p0).1 = 98 ∧ mInb (s.1 + 1) (mS q230.2 p0).2 then if (mS q230.2 p2).1 = 9 then (s220 q230.2 p2 (mI q230.2 p0 (Int32.toNatClampNeg (s.1 + 1)))).bind fun q234 => if q230.1 = q234.1 then (s242L10_738 p0 p1 p2 q234.2 s.1) else (some (.inr (.inr (0, q234.2)))) else none else none else none else none) else (if ((mI s.2 p0 (Int32.toNatClampNeg s.1)) &&& 31) = 21 then (if (mS s.2 p0).1 = 98 ∧ mInb (s.1 + 1) (mS s.2 p0).2 then if (mS s.2 p1).1 = 8 then (s118 s.2 p1 (mI s.2 p0 (Int32.toNatClampNeg (s.1 + 1)))).bind fun q240 => if (mS q240.2 p0).1 = 98 ∧ mInb (s.1 + 1) (mS q240.2 p0).2 then if (mS q240.2 p2).1 = 9 then (s221 q240.2 p2 (mI q240.2 p0 (Int32.toNatClampNeg (s.1 + 1)))).bind fun q244 => if q240.1 = q244.1 then (s242L10_738 p0 p1 p2 q244.2 s.1) else (some (.inr (.inr (0, q244.2)))) else none else none else none else none) else (if ((mI s.2 p0 (Int32.toNatClampNeg s.1)) &&& 31) = 22 then (if (mS s.2 p0).1 = 98 ∧ mInb (s.1 + 1) (mS s.2 p0).2 then if (mS s.2 p0).1 = 98 ∧ mInb (s.1 + 2) (mS s.2 p0).2 then if (mS s.2 p1).1 = 8 then (s119 s.2 p1 (mI s.2 p0 (Int32.toNatClampNeg (s.1 + 1))) (mI s.2 p0 (Int32.toNatClampNeg (s.1 + 2)))).bind fun q251 => if (mS q251.2 p0).1 = 98 ∧ mInb (s.1 + 1) (mS q251.2 p0).2 then if (mS q251.2 p0).1 = 98 ∧ mInb (s.1 + 2) (mS q251.2 p0).2 then if (mS q251.2 p2).1 = 9 then (s227 q251.2 p2 (mI q251.2 p0 (Int32.toNatClampNeg (s.1 + 1))) (mI q251.2 p0 (Int32.toNatClampNeg (s.1 + 2)))).bind fun q256 => if q251.1 = q256.1 then (s242L10_738 p0 p1 p2 q256.2 s.1) else (some (.inr (.inr (0, q256.2)))) else none else none else none else none else none else none) else (if ((mI s.2 p0 (Int32.toNatClampNeg s.1)) &&& 31) = 23 then (if (mS s.2 p0).1 = 98 ∧ mInb (s.1 + 1) (mS s.2 p0).2 then if (mS s.2 p1).1 = 8 then (s120 s.2 p1 (mI s.2 p0 (Int32.toNatClampNeg (s.1 + 1)))).bind fun q262 => if (mS s.2 p2).1 = 9 then (s228 s.2 p2 (mI s.2 p0 (Int32.toNatClampNeg (s.1 + 1)))).bind fun q265 => if q262 = q265 then (s242L10_738 p0 p1 p2 s.2 s.1) else (some (.inr (.inr (0, s.2)))) else none else none else none) else (if ((mI s.2 p0 (Int32.toNatClampNeg s.1)) &&& 31) = 24 then (if (mS s.2 p0).1 = 98 ∧ mInb (s.1 + 1) (mS s.2 p0).2 then if (mS s.2 p1).1 = 8 then (s121 s.2 p1 (mI s.2 p0 (Int32.toNatClampNeg (s.1 + 1)))).bind fun q271 => if (mS s.2 p2).1 = 9 then (s229 s.2 p2 (mI s.2 p0 (Int32.toNatClampNeg (s.1 + 1)))).bind fun q274 => if q271 = q274 then (s242L10_738 p0 p1 p2 s.2 s.1) else (some (.inr (.inr (0, s.2)))) else none else none else none) else (if ((mI s.2 p0 (Int32.toNatClampNeg s.1)) &&& 31) = 25 then (if (mS s.2 p0).1 = 98 ∧ mInb (s.1 + 1) (mS s.2 p0).2 then if (mS s.2 p1).1 = 8 then (s122 s.2 p1 (mI s.2 p0 (Int32.toNatClampNeg (s.1 + 1)))).bind fun q280 => if (mS q280.2 p0).1 = 98 ∧ mInb (s.1 + 1) (mS q280.2 p0).2 then if (mS q280.2 p2).1 = 9 then (s231 q280.2 p2 (mI q280.2 p0 (Int32.toNatClampNeg (s.1 + 1)))).bind fun q284 => if q280.1 = q284.1 then (s242L10_738 p0 p1 p2 q284.2 s.1) else (some (.inr (.inr (0, q284.2)))) else none else none else none else none) else (if ((mI s.2 p0 (Int32.toNatClampNeg s.1)) &&& 31) = 26 then (if (mS s.2 p0).1 = 98 ∧ mInb (s.1 + 1) (mS s.2 p0).2 then if (mS s.2 p1).1 = 8 then (s123 s.2 p1 (mI s.2 p0 (Int32.toNatClampNeg (s.1 + 1)))).bind fun q290 => if (mS s.2 p2).1 = 9 then (s232 s.2 p2 (mI s.2 p0 (Int32.toNatClampNeg (s.1 + 1)))).bind fun q293 => if q290 = q293 then (s242L10_738 p0 p1 p2 s.2 s.1) else (some (.inr (.inr (0, s.2)))) else none else none else none) else (if ((mI s.2 p0 (Int32.toNatClampNeg s.1)) &&& 31) = 27 then (if (mS s.2 p0).1 = 98 ∧ mInb (s.1 + 1) (mS s.2 p0).2 then if (mS s.2 p1).1 = 8 then (s124 s.2 p1 (mI s.2 p0 (Int32.toNatClampNeg (s.1 + 1)))).bind fun q299 => if (mS s.2 p2).1 = 9 then (s235 s.2 p2 (mI s.2 p0 (Int32.toNatClampNeg (s.1 + 1)))).bind fun q302 => if q299 = q302 then (s242L10_738 p0 p1 p2 s.2 s.1) else (some (.inr (.inr (0, s.2)))) else none else none else none) else (if ((mI s.2 p0 (Int32.toNatClampNeg s.1)) &&& 31) = 28 then (if (mS s.2 p0).1 = 98 ∧ mInb (s.1 + 1) (mS s.2 p0).2 then if (mS s.2 p1).1 = 8 then (s125 s.2 p1 (mI s.2 p0 (Int32.toNatClampNeg (s.1 + 1)))).bind fun q308 => if (mS q308.2 p0).1 = 98 ∧ mInb (s.1 + 1) (mS q308.2 p0).2 then if (mS q308.2 p2).1 = 9 then (s236 q308.2 p2 (mI q308.2 p0 (Int32.toNatClampNeg (s.1 + 1)))).bind fun q312 => if q308.1 = q312.1 then (s242L10_738 p0 p1 p2 q312.2 s.1) else (some (.inr (.inr (0, q312.2)))) else none else none else none else none) else (if ((mI s.2 p0 (Int32.toNatClampNeg s.1)) &&& 31) = 29 then (if (mS s.2 p0).1 = 98 ∧ mInb (s.1 + 1) (mS s.2 p0).2 then if (mS s.2 p1).1 = 8 then (s126 s.2 p1 (mI s.2 p0 (Int32.toNatClampNeg (s.1 + 1)))).bind fun q318 => if (mS q318.2 p0).1 = 98 ∧ mInb (s.1 + 1) (mS q318.2 p0).2 then if (mS q318.2 p2).1 = 9 then (s237 q318.2 p2 (mI q318.2 p0 (Int32.toNatClampNeg (s.1 + 1)))).bind fun q322 => if q318.1 = q322.1 then (s242L10_738 p0 p1 p2 q322.2 s.1) else (some (.inr (.inr (0, q322.2)))) else none else none else none else none) else (if ((mI s.2 p0 (Int32.toNatClampNeg s.1)) &&& 31) = 30 then (if (mS s.2 p1).1 = 8 then (s127 s.2 p1).bind fun q327 => if (mS s.2 p2).1 = 9 then (s241 s.2 p2).bind fun q330 => if (lg_cmp q327 q330.1) = 0 then (s242L10_738 p0 p1 p2 q330.2 s.1) else (some (.inr (.inr (0, q330.2)))) else none else none) else (s242L10_738 p0 p1 p2 s.2 s.1))))))))))))))))))))))))))))))) else none) else none
set_option maxRecDepth 20000 in
theorem t242L10 (p0 : Nat) (p1 : Nat) (p2 : Nat) {r : Option Value × mM} (s : Int32 × mM) (o : ((Int32 × mM) ⊕ ((mM) ⊕ (Int32 × mM)))) (hr : s242L10 p0 p1 p2 s = some o) (hC : Sum.elim (fun s' : Int32 × mM => mGo mG (242, List.drop 10 mC242, [.ref p0, .ref p1, .ref p2, .int s'.1], [], s'.2) r) (Sum.elim (fun x : mM => ∀ (w0 : Value) (hw0 : mNotL w0 = true) (w1 : Value) (hw1 : mNotL w1 = true) (w2 : Value) (hw2 : mNotL w2 = true) (w3 : Value) (hw3 : mNotL w3 = true), mGo mG (242, List.drop 740 mC242, [w0, w1, w2, w3], [], x) r) (fun y : (Int32 × mM) => r = (some (.int y.1), y.2))) o) : mGo mG (242, List.drop 10 mC242, [.ref p0, .ref p1, .ref p2, .int s.1], [], s.2) r := by
  unfold s242L10 at hr
  refine mGo.steps 2 (c' := (242, List.drop 12 mC242, [.ref p0, .ref p1, .ref p2, .int s.1], [.ref p0, .int s.1], s.2)) rfl ?_
  obtain ⟨h9, hr⟩ := mIf hr
  refine gAlen (is := List.drop 13 mC242) h9 ?_
  refine mGo.steps 2 (c' := (242, List.drop 15 mC242, [.ref p0, .ref p1, .ref p2, .int s.1], [.int ((Int32.ofNat (mS s.2 p0).2) - 5), .int s.1], s.2)) rfl ?_
  rcases mIte hr with ⟨h334, hr⟩ | ⟨h334, hr⟩
  · refine gBrT (p := ((Int32.ofNat (mS s.2 p0).2) - 5) < s.1) (y := 242) (is := List.drop 16 mC242) (L := [.ref p0, .ref p1, .ref p2, .int s.1]) (st := []) (μ := s.2) (t := 1088) rfl h334 ?_
    obtain rfl := Option.some.inj hr
    exact hC (.ref p0) rfl (.ref p1) rfl (.ref p2) rfl (.int s.1) rfl
  · refine gBrF (p := ((Int32.ofNat (mS s.2 p0).2) - 5) < s.1) (y := 242) (is := List.drop 16 mC242) (L := [.ref p0, .ref p1, .ref p2, .int s.1]) (st := []) (μ := s.2) (t := 1088) rfl h334 ?_
    refine mGo.steps 2 (c' := (242, List.drop 18 mC242, [.ref p0, .ref p1, .ref p2, .int s.1], [.int s.1, .ref p0], s.2)) rfl ?_
    obtain ⟨h10, hr⟩ := mIf hr
    refine gSald (is := List.drop 19 mC242) h10 ?_
    refine mGo.steps 2 (c' := (242, List.drop 21 mC242, [.ref p0, .ref p1, .ref p2, .int s.1], [.int ((mI s.2 p0 (Int32.toNatClampNeg s.1)) &&& 31)], s.2)) rfl ?_
    refine mGo.steps 1 (c' := (242, mSeek (mTs ((mI s.2 p0 (Int32.toNatClampNeg s.1)) &&& 31) 0 [172, 195, 208, 221, 234, 287, 310, 359, 392, 425, 458, 491, 524, 557, 600, 623, 656, 699, 732, 785, 828, 851, 874, 907, 930, 953, 976, 999, 1022, 1045, 1068] 1082) (rC (mG 242)), [.ref p0, .ref p1, .ref p2, .int s.1], [], s.2)) rfl ?_
    rcases mIte hr with ⟨h20, hr⟩ | ⟨h20, hr⟩
    · refine gTs1 (w := 0) h20 rfl ?_
      refine mGo.steps 5 (c' := (242, List.drop 27 mC242, [.ref p0, .ref p1, .ref p2, .int s.1], [.int (s.1 + 1), .ref p0, .ref p1], s.2)) rfl ?_
      obtain ⟨h11, hr⟩ := mIf hr
      refine gSald (is := List.drop 28 mC242) h11 ?_
      obtain ⟨h12, hr⟩ := mIf hr
      obtain ⟨q13, h14, hr⟩ := mBi hr
      refine gCall (z := 97) (n := 1) (f := 0) (kind := 1) (a := p1) (As := [.int (mI s.2 p0 (Int32.toNatClampNeg (s.1 + 1)))]) (y := 242) (is := List.drop 29 mC242) (L := [.ref p0, .ref p1, .ref p2, .int s.1]) (rest := []) (μ := s.2) rfl (by decide) (by decide) ⟨rfl, rfl⟩ rfl h12 (Nat.le_of_ble_eq_true rfl) (Nat.le_of_ble_eq_true rfl) (t97 h14) ?_
      refine mGo.steps 5 (c' := (242, List.drop 34 mC242, [.ref p0, .ref p1, .ref p2, .int s.1], [.int (s.1 + 1), .ref p0, .ref p2, .int q13.1], q13.2)) rfl ?_
      obtain ⟨h15, hr⟩ := mIf hr
      refine gSald (is := List.drop 35 mC242) h15 ?_
      obtain ⟨h16, hr⟩ := mIf hr
      obtain ⟨q17, h18, hr⟩ := mBi hr
      refine gCall (z := 178) (n := 1) (f := 0) (kind := 1) (a := p2) (As := [.int (mI q13.2 p0 (Int32.toNatClampNeg (s.1 + 1)))]) (y := 242) (is := List.drop 36 mC242) (L := [.ref p0, .ref p1, .ref p2, .int s.1]) (rest := [.int q13.1]) (μ := q13.2) rfl (by decide) (by decide) ⟨rfl, rfl⟩ rfl h16 (Nat.le_of_ble_eq_true rfl) (Nat.le_of_ble_eq_true rfl) (t178 h18) ?_
      rcases mIte hr with ⟨h19, hr⟩ | ⟨h19, hr⟩
      · refine gBrT (p := q13.1 = q17.1) (y := 242) (is := List.drop 37 mC242) (L := [.ref p0, .ref p1, .ref p2, .int s.1]) (st := []) (μ := q17.2) (t := 1082) rfl h19 ?_
        exact t242L10_738 p0 p1 p2 q17.2 s.1 hr hC
      · refine gBrF (p := q13.1 = q17.1) (y := 242) (is := List.drop 37 mC242) (L := [.ref p0, .ref p1, .ref p2, .int s.1]) (st := []) (μ := q17.2) (t := 1082) rfl h19 ?_
        refine mGo.steps 1 (c' := (242, List.drop 38 mC242, [.ref p0, .ref p1, .ref p2, .int s.1], [.int 0], q17.2)) rfl ?_
        obtain rfl := Option.some.inj hr
        rw [show r = _ from hC]
        exact gZret rfl (by decide)
    · refine gTs0 (w := 0) h20 rfl ?_
      rcases mIte hr with ⟨h28, hr⟩ | ⟨h28, hr⟩
      · refine gTs1 (w := 1) h28 rfl ?_
        refine mGo.steps 1 (c' := (242, List.drop 40 mC242, [.ref p0, .ref p1, .ref p2, .int s.1], [.ref p1], s.2)) rfl ?_
        obtain ⟨h21, hr⟩ := mIf hr
        obtain ⟨q22, h23, hr⟩ := mBi hr
        refine gCall (z := 98) (n := 0) (f := 0) (kind := 1) (a := p1) (As := []) (y := 242) (is := List.drop 41 mC242) (L := [.ref p0, .ref p1, .ref p2, .int s.1]) (rest := []) (μ := s.2) rfl (by decide) (by decide) ⟨rfl, rfl⟩ rfl h21 (Nat.le_of_ble_eq_true rfl) (Nat.le_of_ble_eq_true rfl) (t98 h23) ?_
        refine mGo.steps 1 (c' := (242, List.drop 42 mC242, [.ref p0, .ref p1, .ref p2, .int s.1], [.ref p2, .int q22.1], q22.2)) rfl ?_
        obtain ⟨h24, hr⟩ := mIf hr
        obtain ⟨q25, h26, hr⟩ := mBi hr
        refine gCall (z := 179) (n := 0) (f := 0) (kind := 1) (a := p2) (As := []) (y := 242) (is := List.drop 43 mC242) (L := [.ref p0, .ref p1, .ref p2, .int s.1]) (rest := [.int q22.1]) (μ := q22.2) rfl (by decide) (by decide) ⟨rfl, rfl⟩ rfl h24 (Nat.le_of_ble_eq_true rfl) (Nat.le_of_ble_eq_true rfl) (t179 h26) ?_
        rcases mIte hr with ⟨h27, hr⟩ | ⟨h27, hr⟩
        · refine gBrT (p := q22.1 = q25.1) (y := 242) (is := List.drop 44 mC242) (L := [.ref p0, .ref p1, .ref p2, .int s.1]) (st := []) (μ := q25.2) (t := 1082) rfl h27 ?_
          exact t242L10_738 p0 p1 p2 q25.2 s.1 hr hC
        · refine gBrF (p := q22.1 = q25.1) (y := 242) (is := List.drop 44 mC242) (L := [.ref p0, .ref p1, .ref p2, .int s.1]) (st := []) (μ := q25.2) (t := 1082) rfl h27 ?_
          refine mGo.steps 1 (c' := (242, List.drop 45 mC242, [.ref p0, .ref p1, .ref p2, .int s.1], [.int 0], q25.2)) rfl ?_
          obtain rfl := Option.some.inj hr
          rw [show r = _ from hC]
          exact gZret rfl (by decide)
      · refine gTs0 (w := 1) h28 rfl ?_
        rcases mIte hr with ⟨h36, hr⟩ | ⟨h36, hr⟩
        · refine gTs1 (w := 2) h36 rfl ?_
          refine mGo.steps 1 (c' := (242, List.drop 47 mC242, [.ref p0, .ref p1, .ref p2, .int s.1], [.ref p1], s.2)) rfl ?_
          obtain ⟨h29, hr⟩ := mIf hr
          obtain ⟨q30, h31, hr⟩ := mBi hr
          refine gCall (z := 99) (n := 0) (f := 0) (kind := 1) (a := p1) (As := []) (y := 242) (is := List.drop 48 mC242) (L := [.ref p0, .ref p1, .ref p2, .int s.1]) (rest := []) (μ := s.2) rfl (by decide) (by decide) ⟨rfl, rfl⟩ rfl h29 (Nat.le_of_ble_eq_true rfl) (Nat.le_of_ble_eq_true rfl) (t99 h31) ?_
          refine mGo.steps 1 (c' := (242, List.drop 49 mC242, [.ref p0, .ref p1, .ref p2, .int s.1], [.ref p2, .int q30.1], q30.2)) rfl ?_
          obtain ⟨h32, hr⟩ := mIf hr
          obtain ⟨q33, h34, hr⟩ := mBi hr
          refine gCall (z := 177) (n := 0) (f := 0) (kind := 1) (a := p2) (As := []) (y := 242) (is := List.drop 50 mC242) (L := [.ref p0, .ref p1, .ref p2, .int s.1]) (rest := [.int q30.1]) (μ := q30.2) rfl (by decide) (by decide) ⟨rfl, rfl⟩ rfl h32 (Nat.le_of_ble_eq_true rfl) (Nat.le_of_ble_eq_true rfl) (t177 h34) ?_
          rcases mIte hr with ⟨h35, hr⟩ | ⟨h35, hr⟩
          · refine gBrT (p := q30.1 = q33.1) (y := 242) (is := List.drop 51 mC242) (L := [.ref p0, .ref p1, .ref p2, .int s.1]) (st := []) (μ := q33.2) (t := 1082) rfl h35 ?_
            exact t242L10_738 p0 p1 p2 q33.2 s.1 hr hC
          · refine gBrF (p := q30.1 = q33.1) (y := 242) (is := List.drop 51 mC242) (L := [.ref p0, .ref p1, .ref p2, .int s.1]) (st := []) (μ := q33.2) (t := 1082) rfl h35 ?_
            refine mGo.steps 1 (c' := (242, List.drop 52 mC242, [.ref p0, .ref p1, .ref p2, .int s.1], [.int 0], q33.2)) rfl ?_
            obtain rfl := Option.some.inj hr
            rw [show r = _ from hC]
            exact gZret rfl (by decide)
        · refine gTs0 (w := 2) h36 rfl ?_
          rcases mIte hr with ⟨h44, hr⟩ | ⟨h44, hr⟩
          · refine gTs1 (w := 3) h44 rfl ?_
            refine mGo.steps 1 (c' := (242, List.drop 54 mC242, [.ref p0, .ref p1, .ref p2, .int s.1], [.ref p1], s.2)) rfl ?_
            obtain ⟨h37, hr⟩ := mIf hr
            obtain ⟨q38, h39, hr⟩ := mBi hr
            refine gCall (z := 100) (n := 0) (f := 0) (kind := 1) (a := p1) (As := []) (y := 242) (is := List.drop 55 mC242) (L := [.ref p0, .ref p1, .ref p2, .int s.1]) (rest := []) (μ := s.2) rfl (by decide) (by decide) ⟨rfl, rfl⟩ rfl h37 (Nat.le_of_ble_eq_true rfl) (Nat.le_of_ble_eq_true rfl) (t100 h39) ?_
            refine mGo.steps 1 (c' := (242, List.drop 56 mC242, [.ref p0, .ref p1, .ref p2, .int s.1], [.ref p2, .int q38.1], q38.2)) rfl ?_
            obtain ⟨h40, hr⟩ := mIf hr
            obtain ⟨q41, h42, hr⟩ := mBi hr
            refine gCall (z := 181) (n := 0) (f := 0) (kind := 1) (a := p2) (As := []) (y := 242) (is := List.drop 57 mC242) (L := [.ref p0, .ref p1, .ref p2, .int s.1]) (rest := [.int q38.1]) (μ := q38.2) rfl (by decide) (by decide) ⟨rfl, rfl⟩ rfl h40 (Nat.le_of_ble_eq_true rfl) (Nat.le_of_ble_eq_true rfl) (t181 h42) ?_
            rcases mIte hr with ⟨h43, hr⟩ | ⟨h43, hr⟩
            · refine gBrT (p := q38.1 = q41.1) (y := 242) (is := List.drop 58 mC242) (L := [.ref p0, .ref p1, .ref p2, .int s.1]) (st := []) (μ := q41.2) (t := 1082) rfl h43 ?_
              exact t242L10_738 p0 p1 p2 q41.2 s.1 hr hC
            · refine gBrF (p := q38.1 = q41.1) (y := 242) (is := List.drop 58 mC242) (L := [.ref p0, .ref p1, .ref p2, .int s.1]) (st := []) (μ := q41.2) (t := 1082) rfl h43 ?_
              refine mGo.steps 1 (c' := (242, List.drop 59 mC242, [.ref p0, .ref p1, .ref p2, .int s.1], [.int 0], q41.2)) rfl ?_
              obtain rfl := Option.some.inj hr
              rw [show r = _ from hC]
              exact gZret rfl (by decide)
          · refine gTs0 (w := 3) h44 rfl ?_
            rcases mIte hr with ⟨h60, hr⟩ | ⟨h60, hr⟩
            · refine gTs1 (w := 4) h60 rfl ?_
              refine mGo.steps 5 (c' := (242, List.drop 65 mC242, [.ref p0, .ref p1, .ref p2, .int s.1], [.int (s.1 + 1), .ref p0, .ref p1], s.2)) rfl ?_
              obtain ⟨h45, hr⟩ := mIf hr
              refine gSald (is := List.drop 66 mC242) h45 ?_
              refine mGo.steps 4 (c' := (242, List.drop 70 mC242, [.ref p0, .ref p1, .ref p2, .int s.1], [.int (s.1 + 2), .ref p0, .int (mI s.2 p0 (Int32.toNatClampNeg (s.1 + 1))), .ref p1], s.2)) rfl ?_
              obtain ⟨h46, hr⟩ := mIf hr
              refine gSald (is := List.drop 71 mC242) h46 ?_
              refine mGo.steps 4 (c' := (242, List.drop 75 mC242, [.ref p0, .ref p1, .ref p2, .int s.1], [.int (s.1 + 3), .ref p0, .int (mI s.2 p0 (Int32.toNatClampNeg (s.1 + 2))), .int (mI s.2 p0 (Int32.toNatClampNeg (s.1 + 1))), .ref p1], s.2)) rfl ?_
              obtain ⟨h47, hr⟩ := mIf hr
              refine gSald (is := List.drop 76 mC242) h47 ?_
              refine mGo.steps 4 (c' := (242, List.drop 80 mC242, [.ref p0, .ref p1, .ref p2, .int s.1], [.int (s.1 + 4), .ref p0, .int (mI s.2 p0 (Int32.toNatClampNeg (s.1 + 3))), .int (mI s.2 p0 (Int32.toNatClampNeg (s.1 + 2))), .int (mI s.2 p0 (Int32.toNatClampNeg (s.1 + 1))), .ref p1], s.2)) rfl ?_
              obtain ⟨h48, hr⟩ := mIf hr
              refine gSald (is := List.drop 81 mC242) h48 ?_
              obtain ⟨h49, hr⟩ := mIf hr
              obtain ⟨q50, h51, hr⟩ := mBi hr
              refine gCall (z := 101) (n := 4) (f := 0) (kind := 1) (a := p1) (As := [.int (mI s.2 p0 (Int32.toNatClampNeg (s.1 + 1))), .int (mI s.2 p0 (Int32.toNatClampNeg (s.1 + 2))), .int (mI s.2 p0 (Int32.toNatClampNeg (s.1 + 3))), .int (mI s.2 p0 (Int32.toNatClampNeg (s.1 + 4)))]) (y := 242) (is := List.drop 82 mC242) (L := [.ref p0, .ref p1, .ref p2, .int s.1]) (rest := []) (μ := s.2) rfl (by decide) (by decide) ⟨rfl, rfl⟩ rfl h49 (Nat.le_of_ble_eq_true rfl) (Nat.le_of_ble_eq_true rfl) (t101 h51) ?_
              refine mGo.steps 5 (c' := (242, List.drop 87 mC242, [.ref p0, .ref p1, .ref p2, .int s.1], [.int (s.1 + 1), .ref p0, .ref p2, .int q50.1], q50.2)) rfl ?_
              obtain ⟨h52, hr⟩ := mIf hr
              refine gSald (is := List.drop 88 mC242) h52 ?_
              refine mGo.steps 4 (c' := (242, List.drop 92 mC242, [.ref p0, .ref p1, .ref p2, .int s.1], [.int (s.1 + 2), .ref p0, .int (mI q50.2 p0 (Int32.toNatClampNeg (s.1 + 1))), .ref p2, .int q50.1], q50.2)) rfl ?_
              obtain ⟨h53, hr⟩ := mIf hr
              refine gSald (is := List.drop 93 mC242) h53 ?_
              refine mGo.steps 4 (c' := (242, List.drop 97 mC242, [.ref p0, .ref p1, .ref p2, .int s.1], [.int (s.1 + 3), .ref p0, .int (mI q50.2 p0 (Int32.toNatClampNeg (s.1 + 2))), .int (mI q50.2 p0 (Int32.toNatClampNeg (s.1 + 1))), .ref p2, .int q50.1], q50.2)) rfl ?_
              obtain ⟨h54, hr⟩ := mIf hr
              refine gSald (is := List.drop 98 mC242) h54 ?_
              refine mGo.steps 4 (c' := (242, List.drop 102 mC242, [.ref p0, .ref p1, .ref p2, .int s.1], [.int (s.1 + 4), .ref p0, .int (mI q50.2 p0 (Int32.toNatClampNeg (s.1 + 3))), .int (mI q50.2 p0 (Int32.toNatClampNeg (s.1 + 2))), .int (mI q50.2 p0 (Int32.toNatClampNeg (s.1 + 1))), .ref p2, .int q50.1], q50.2)) rfl ?_
              obtain ⟨h55, hr⟩ := mIf hr
              refine gSald (is := List.drop 103 mC242) h55 ?_
              obtain ⟨h56, hr⟩ := mIf hr
              obtain ⟨q57, h58, hr⟩ := mBi hr
              refine gCall (z := 184) (n := 4) (f := 0) (kind := 1) (a := p2) (As := [.int (mI q50.2 p0 (Int32.toNatClampNeg (s.1 + 1))), .int (mI q50.2 p0 (Int32.toNatClampNeg (s.1 + 2))), .int (mI q50.2 p0 (Int32.toNatClampNeg (s.1 + 3))), .int (mI q50.2 p0 (Int32.toNatClampNeg (s.1 + 4)))]) (y := 242) (is := List.drop 104 mC242) (L := [.ref p0, .ref p1, .ref p2, .int s.1]) (rest := [.int q50.1]) (μ := q50.2) rfl (by decide) (by decide) ⟨rfl, rfl⟩ rfl h56 (Nat.le_of_ble_eq_true rfl) (Nat.le_of_ble_eq_true rfl) (t184 h58) ?_
              rcases mIte hr with ⟨h59, hr⟩ | ⟨h59, hr⟩
              · refine gBrT (p := q50.1 = q57.1) (y := 242) (is := List.drop 105 mC242) (L := [.ref p0, .ref p1, .ref p2, .int s.1]) (st := []) (μ := q57.2) (t := 1082) rfl h59 ?_
                exact t242L10_738 p0 p1 p2 q57.2 s.1 hr hC
              · refine gBrF (p := q50.1 = q57.1) (y := 242) (is := List.drop 105 mC242) (L := [.ref p0, .ref p1, .ref p2, .int s.1]) (st := []) (μ := q57.2) (t := 1082) rfl h59 ?_
                refine mGo.steps 1 (c' := (242, List.drop 106 mC242, [.ref p0, .ref p1, .ref p2, .int s.1], [.int 0], q57.2)) rfl ?_
                obtain rfl := Option.some.inj hr
                rw [show r = _ from hC]
                exact gZret rfl (by decide)
            · refine gTs0 (w := 4) h60 rfl ?_
              rcases mIte hr with ⟨h70, hr⟩ | ⟨h70, hr⟩
              · refine gTs1 (w := 5) h70 rfl ?_
                refine mGo.steps 5 (c' := (242, List.drop 112 mC242, [.ref p0, .ref p1, .ref p2, .int s.1], [.int (s.1 + 1), .ref p0, .ref p1], s.2)) rfl ?_
                obtain ⟨h61, hr⟩ := mIf hr
                refine gSald (is := List.drop 113 mC242) h61 ?_
                obtain ⟨h62, hr⟩ := mIf hr
                obtain ⟨q63, h64, hr⟩ := mBi hr
                refine gCall (z := 102) (n := 1) (f := 0) (kind := 1) (a := p1) (As := [.int (mI s.2 p0 (Int32.toNatClampNeg (s.1 + 1)))]) (y := 242) (is := List.drop 114 mC242) (L := [.ref p0, .ref p1, .ref p2, .int s.1]) (rest := []) (μ := s.2) rfl (by decide) (by decide) ⟨rfl, rfl⟩ rfl h62 (Nat.le_of_ble_eq_true rfl) (Nat.le_of_ble_eq_true rfl) (t102 h64) ?_
                refine mGo.steps 5 (c' := (242, List.drop 119 mC242, [.ref p0, .ref p1, .ref p2, .int s.1], [.int (s.1 + 1), .ref p0, .ref p2, .int q63.1], q63.2)) rfl ?_
                obtain ⟨h65, hr⟩ := mIf hr
                refine gSald (is := List.drop 120 mC242) h65 ?_
                obtain ⟨h66, hr⟩ := mIf hr
                obtain ⟨q67, h68, hr⟩ := mBi hr
                refine gCall (z := 186) (n := 1) (f := 0) (kind := 1) (a := p2) (As := [.int (mI q63.2 p0 (Int32.toNatClampNeg (s.1 + 1)))]) (y := 242) (is := List.drop 121 mC242) (L := [.ref p0, .ref p1, .ref p2, .int s.1]) (rest := [.int q63.1]) (μ := q63.2) rfl (by decide) (by decide) ⟨rfl, rfl⟩ rfl h66 (Nat.le_of_ble_eq_true rfl) (Nat.le_of_ble_eq_true rfl) (t186 h68) ?_
                rcases mIte hr with ⟨h69, hr⟩ | ⟨h69, hr⟩
                · refine gBrT (p := q63.1 = q67.1) (y := 242) (is := List.drop 122 mC242) (L := [.ref p0, .ref p1, .ref p2, .int s.1]) (st := []) (μ := q67.2) (t := 1082) rfl h69 ?_
                  exact t242L10_738 p0 p1 p2 q67.2 s.1 hr hC
                · refine gBrF (p := q63.1 = q67.1) (y := 242) (is := List.drop 122 mC242) (L := [.ref p0, .ref p1, .ref p2, .int s.1]) (st := []) (μ := q67.2) (t := 1082) rfl h69 ?_
                  refine mGo.steps 1 (c' := (242, List.drop 123 mC242, [.ref p0, .ref p1, .ref p2, .int s.1], [.int 0], q67.2)) rfl ?_
                  obtain rfl := Option.some.inj hr
                  rw [show r = _ from hC]
                  exact gZret rfl (by decide)
              · refine gTs0 (w := 5) h70 rfl ?_
                rcases mIte hr with ⟨h84, hr⟩ | ⟨h84, hr⟩
                · refine gTs1 (w := 6) h84 rfl ?_
                  refine mGo.steps 5 (c' := (242, List.drop 129 mC242, [.ref p0, .ref p1, .ref p2, .int s.1], [.int (s.1 + 1), .ref p0, .ref p1], s.2)) rfl ?_
                  obtain ⟨h71, hr⟩ := mIf hr
                  refine gSald (is := List.drop 130 mC242) h71 ?_
                  refine mGo.steps 4 (c' := (242, List.drop 134 mC242, [.ref p0, .ref p1, .ref p2, .int s.1], [.int (s.1 + 2), .ref p0, .int (mI s.2 p0 (Int32.toNatClampNeg (s.1 + 1))), .ref p1], s.2)) rfl ?_
                  obtain ⟨h72, hr⟩ := mIf hr
                  refine gSald (is := List.drop 135 mC242) h72 ?_
                  rcases mIte hr with ⟨h83, hr⟩ | ⟨h83, hr⟩
                  · refine gBrT (p := (mI s.2 p0 (Int32.toNatClampNeg (s.1 + 2))) = 0) (y := 242) (is := List.drop 136 mC242) (L := [.ref p0, .ref p1, .ref p2, .int s.1]) (st := [.int (mI s.2 p0 (Int32.toNatClampNeg (s.1 + 1))), .ref p1]) (μ := s.2) (t := 328) rfl h83 ?_
                    refine mGo.steps 1 (c' := (242, List.drop 139 mC242, [.ref p0, .ref p1, .ref p2, .int s.1], [.int 0, .int (mI s.2 p0 (Int32.toNatClampNeg (s.1 + 1))), .ref p1], s.2)) rfl ?_
                    exact t242L10_139 p0 p1 p2 s.2 s.1 0 (mI s.2 p0 (Int32.toNatClampNeg (s.1 + 1))) p1 hr hC
                  · refine gBrF (p := (mI s.2 p0 (Int32.toNatClampNeg (s.1 + 2))) = 0) (y := 242) (is := List.drop 136 mC242) (L := [.ref p0, .ref p1, .ref p2, .int s.1]) (st := [.int (mI s.2 p0 (Int32.toNatClampNeg (s.1 + 1))), .ref p1]) (μ := s.2) (t := 328) rfl h83 ?_
                    refine mGo.steps 2 (c' := (242, List.drop 139 mC242, [.ref p0, .ref p1, .ref p2, .int s.1], [.int 1, .int (mI s.2 p0 (Int32.toNatClampNeg (s.1 + 1))), .ref p1], s.2)) rfl ?_
                    exact t242L10_139 p0 p1 p2 s.2 s.1 1 (mI s.2 p0 (Int32.toNatClampNeg (s.1 + 1))) p1 hr hC
                · refine gTs0 (w := 6) h84 rfl ?_
                  rcases mIte hr with ⟨h94, hr⟩ | ⟨h94, hr⟩
                  · refine gTs1 (w := 7) h94 rfl ?_
                    refine mGo.steps 5 (c' := (242, List.drop 164 mC242, [.ref p0, .ref p1, .ref p2, .int s.1], [.int (s.1 + 1), .ref p0, .ref p1], s.2)) rfl ?_
                    obtain ⟨h85, hr⟩ := mIf hr
                    refine gSald (is := List.drop 165 mC242) h85 ?_
                    refine mGo.steps 4 (c' := (242, List.drop 169 mC242, [.ref p0, .ref p1, .ref p2, .int s.1], [.int (s.1 + 2), .ref p0, .int (mI s.2 p0 (Int32.toNatClampNeg (s.1 + 1))), .ref p1], s.2)) rfl ?_
                    obtain ⟨h86, hr⟩ := mIf hr
                    refine gSald (is := List.drop 170 mC242) h86 ?_
                    obtain ⟨h87, hr⟩ := mIf hr
                    obtain ⟨q88, h89, hr⟩ := mBi hr
                    refine gCall (z := 104) (n := 2) (f := 0) (kind := 1) (a := p1) (As := [.int (mI s.2 p0 (Int32.toNatClampNeg (s.1 + 1))), .int (mI s.2 p0 (Int32.toNatClampNeg (s.1 + 2)))]) (y := 242) (is := List.drop 171 mC242) (L := [.ref p0, .ref p1, .ref p2, .int s.1]) (rest := []) (μ := s.2) rfl (by decide) (by decide) ⟨rfl, rfl⟩ rfl h87 (Nat.le_of_ble_eq_true rfl) (Nat.le_of_ble_eq_true rfl) (t104 h89) ?_
                    refine mGo.steps 5 (c' := (242, List.drop 176 mC242, [.ref p0, .ref p1, .ref p2, .int s.1], [.int (s.1 + 1), .ref p0, .ref p2, .int q88], s.2)) rfl ?_
                    refine gSald (is := List.drop 177 mC242) h85 ?_
                    refine mGo.steps 4 (c' := (242, List.drop 181 mC242, [.ref p0, .ref p1, .ref p2, .int s.1], [.int (s.1 + 2), .ref p0, .int (mI s.2 p0 (Int32.toNatClampNeg (s.1 + 1))), .ref p2, .int q88], s.2)) rfl ?_
                    refine gSald (is := List.drop 182 mC242) h86 ?_
                    obtain ⟨h90, hr⟩ := mIf hr
                    obtain ⟨q91, h92, hr⟩ := mBi hr
                    refine gCall (z := 188) (n := 2) (f := 0) (kind := 1) (a := p2) (As := [.int (mI s.2 p0 (Int32.toNatClampNeg (s.1 + 1))), .int (mI s.2 p0 (Int32.toNatClampNeg (s.1 + 2)))]) (y := 242) (is := List.drop 183 mC242) (L := [.ref p0, .ref p1, .ref p2, .int s.1]) (rest := [.int q88]) (μ := s.2) rfl (by decide) (by decide) ⟨rfl, rfl⟩ rfl h90 (Nat.le_of_ble_eq_true rfl) (Nat.le_of_ble_eq_true rfl) (t188 h92) ?_
                    rcases mIte hr with ⟨h93, hr⟩ | ⟨h93, hr⟩
                    · refine gBrT (p := q88 = q91) (y := 242) (is := List.drop 184 mC242) (L := [.ref p0, .ref p1, .ref p2, .int s.1]) (st := []) (μ := s.2) (t := 1082) rfl h93 ?_
                      exact t242L10_738 p0 p1 p2 s.2 s.1 hr hC
                    · refine gBrF (p := q88 = q91) (y := 242) (is := List.drop 184 mC242) (L := [.ref p0, .ref p1, .ref p2, .int s.1]) (st := []) (μ := s.2) (t := 1082) rfl h93 ?_
                      refine mGo.steps 1 (c' := (242, List.drop 185 mC242, [.ref p0, .ref p1, .ref p2, .int s.1], [.int 0], s.2)) rfl ?_
                      obtain rfl := Option.some.inj hr
                      rw [show r = _ from hC]
                      exact gZret rfl (by decide)
                  · refine gTs0 (w := 7) h94 rfl ?_
                    rcases mIte hr with ⟨h104, hr⟩ | ⟨h104, hr⟩
                    · refine gTs1 (w := 8) h104 rfl ?_
                      refine mGo.steps 5 (c' := (242, List.drop 191 mC242, [.ref p0, .ref p1, .ref p2, .int s.1], [.int (s.1 + 1), .ref p0, .ref p1], s.2)) rfl ?_
                      obtain ⟨h95, hr⟩ := mIf hr
                      refine gSald (is := List.drop 192 mC242) h95 ?_
                      refine mGo.steps 4 (c' := (242, List.drop 196 mC242, [.ref p0, .ref p1, .ref p2, .int s.1], [.int (s.1 + 2), .ref p0, .int (mI s.2 p0 (Int32.toNatClampNeg (s.1 + 1))), .ref p1], s.2)) rfl ?_
                      obtain ⟨h96, hr⟩ := mIf hr
                      refine gSald (is := List.drop 197 mC242) h96 ?_
                      obtain ⟨h97, hr⟩ := mIf hr
                      obtain ⟨q98, h99, hr⟩ := mBi hr
                      refine gCall (z := 105) (n := 2) (f := 0) (kind := 1) (a := p1) (As := [.int (mI s.2 p0 (Int32.toNatClampNeg (s.1 + 1))), .int (mI s.2 p0 (Int32.toNatClampNeg (s.1 + 2)))]) (y := 242) (is := List.drop 198 mC242) (L := [.ref p0, .ref p1, .ref p2, .int s.1]) (rest := []) (μ := s.2) rfl (by decide) (by decide) ⟨rfl, rfl⟩ rfl h97 (Nat.le_of_ble_eq_true rfl) (Nat.le_of_ble_eq_true rfl) (t105 h99) ?_
                      refine mGo.steps 5 (c' := (242, List.drop 203 mC242, [.ref p0, .ref p1, .ref p2, .int s.1], [.int (s.1 + 1), .ref p0, .ref p2, .int q98], s.2)) rfl ?_
                      refine gSald (is := List.drop 204 mC242) h95 ?_
                      refine mGo.steps 4 (c' := (242, List.drop 208 mC242, [.ref p0, .ref p1, .ref p2, .int s.1], [.int (s.1 + 2), .ref p0, .int (mI s.2 p0 (Int32.toNatClampNeg (s.1 + 1))), .ref p2, .int q98], s.2)) rfl ?_
                      refine gSald (is := List.drop 209 mC242) h96 ?_
                      obtain ⟨h100, hr⟩ := mIf hr
                      obtain ⟨q101, h102, hr⟩ := mBi hr
                      refine gCall (z := 189) (n := 2) (f := 0) (kind := 1) (a := p2) (As := [.int (mI s.2 p0 (Int32.toNatClampNeg (s.1 + 1))), .int (mI s.2 p0 (Int32.toNatClampNeg (s.1 + 2)))]) (y := 242) (is := List.drop 210 mC242) (L := [.ref p0, .ref p1, .ref p2, .int s.1]) (rest := [.int q98]) (μ := s.2) rfl (by decide) (by decide) ⟨rfl, rfl⟩ rfl h100 (Nat.le_of_ble_eq_true rfl) (Nat.le_of_ble_eq_true rfl) (t189 h102) ?_
                      rcases mIte hr with ⟨h103, hr⟩ | ⟨h103, hr⟩
                      · refine gBrT (p := q98 = q101) (y := 242) (is := List.drop 211 mC242) (L := [.ref p0, .ref p1, .ref p2, .int s.1]) (st := []) (μ := s.2) (t := 1082) rfl h103 ?_
                        exact t242L10_738 p0 p1 p2 s.2 s.1 hr hC
                      · refine gBrF (p := q98 = q101) (y := 242) (is := List.drop 211 mC242) (L := [.ref p0, .ref p1, .ref p2, .int s.1]) (st := []) (μ := s.2) (t := 1082) rfl h103 ?_
                        refine mGo.steps 1 (c' := (242, List.drop 212 mC242, [.ref p0, .ref p1, .ref p2, .int s.1], [.int 0], s.2)) rfl ?_
                        obtain rfl := Option.some.inj hr
                        rw [show r = _ from hC]
                        exact gZret rfl (by decide)
                    · refine gTs0 (w := 8) h104 rfl ?_
                      rcases mIte hr with ⟨h114, hr⟩ | ⟨h114, hr⟩
                      · refine gTs1 (w := 9) h114 rfl ?_
                        refine mGo.steps 5 (c' := (242, List.drop 218 mC242, [.ref p0, .ref p1, .ref p2, .int s.1], [.int (s.1 + 1), .ref p0, .ref p1], s.2)) rfl ?_
                        obtain ⟨h105, hr⟩ := mIf hr
                        refine gSald (is := List.drop 219 mC242) h105 ?_
                        refine mGo.steps 4 (c' := (242, List.drop 223 mC242, [.ref p0, .ref p1, .ref p2, .int s.1], [.int (s.1 + 2), .ref p0, .int (mI s.2 p0 (Int32.toNatClampNeg (s.1 + 1))), .ref p1], s.2)) rfl ?_
                        obtain ⟨h106, hr⟩ := mIf hr
                        refine gSald (is := List.drop 224 mC242) h106 ?_
                        obtain ⟨h107, hr⟩ := mIf hr
                        obtain ⟨q108, h109, hr⟩ := mBi hr
                        refine gCall (z := 106) (n := 2) (f := 0) (kind := 1) (a := p1) (As := [.int (mI s.2 p0 (Int32.toNatClampNeg (s.1 + 1))), .int (mI s.2 p0 (Int32.toNatClampNeg (s.1 + 2)))]) (y := 242) (is := List.drop 225 mC242) (L := [.ref p0, .ref p1, .ref p2, .int s.1]) (rest := []) (μ := s.2) rfl (by decide) (by decide) ⟨rfl, rfl⟩ rfl h107 (Nat.le_of_ble_eq_true rfl) (Nat.le_of_ble_eq_true rfl) (t106 h109) ?_
                        refine mGo.steps 5 (c' := (242, List.drop 230 mC242, [.ref p0, .ref p1, .ref p2, .int s.1], [.int (s.1 + 1), .ref p0, .ref p2, .int q108], s.2)) rfl ?_
                        refine gSald (is := List.drop 231 mC242) h105 ?_
                        refine mGo.steps 4 (c' := (242, List.drop 235 mC242, [.ref p0, .ref p1, .ref p2, .int s.1], [.int (s.1 + 2), .ref p0, .int (mI s.2 p0 (Int32.toNatClampNeg (s.1 + 1))), .ref p2, .int q108], s.2)) rfl ?_
                        refine gSald (is := List.drop 236 mC242) h106 ?_
                        obtain ⟨h110, hr⟩ := mIf hr
                        obtain ⟨q111, h112, hr⟩ := mBi hr
                        refine gCall (z := 190) (n := 2) (f := 0) (kind := 1) (a := p2) (As := [.int (mI s.2 p0 (Int32.toNatClampNeg (s.1 + 1))), .int (mI s.2 p0 (Int32.toNatClampNeg (s.1 + 2)))]) (y := 242) (is := List.drop 237 mC242) (L := [.ref p0, .ref p1, .ref p2, .int s.1]) (rest := [.int q108]) (μ := s.2) rfl (by decide) (by decide) ⟨rfl, rfl⟩ rfl h110 (Nat.le_of_ble_eq_true rfl) (Nat.le_of_ble_eq_true rfl) (t190 h112) ?_
                        rcases mIte hr with ⟨h113, hr⟩ | ⟨h113, hr⟩
                        · refine gBrT (p := q108 = q111) (y := 242) (is := List.drop 238 mC242) (L := [.ref p0, .ref p1, .ref p2, .int s.1]) (st := []) (μ := s.2) (t := 1082) rfl h113 ?_
                          exact t242L10_738 p0 p1 p2 s.2 s.1 hr hC
                        · refine gBrF (p := q108 = q111) (y := 242) (is := List.drop 238 mC242) (L := [.ref p0, .ref p1, .ref p2, .int s.1]) (st := []) (μ := s.2) (t := 1082) rfl h113 ?_
                          refine mGo.steps 1 (c' := (242, List.drop 239 mC242, [.ref p0, .ref p1, .ref p2, .int s.1], [.int 0], s.2)) rfl ?_
                          obtain rfl := Option.some.inj hr
                          rw [show r = _ from hC]
                          exact gZret rfl (by decide)
                      · refine gTs0 (w := 9) h114 rfl ?_
                        rcases mIte hr with ⟨h124, hr⟩ | ⟨h124, hr⟩
                        · refine gTs1 (w := 10) h124 rfl ?_
                          refine mGo.steps 5 (c' := (242, List.drop 245 mC242, [.ref p0, .ref p1, .ref p2, .int s.1], [.int (s.1 + 1), .ref p0, .ref p1], s.2)) rfl ?_
                          obtain ⟨h115, hr⟩ := mIf hr
                          refine gSald (is := List.drop 246 mC242) h115 ?_
                          refine mGo.steps 4 (c' := (242, List.drop 250 mC242, [.ref p0, .ref p1, .ref p2, .int s.1], [.int (s.1 + 2), .ref p0, .int (mI s.2 p0 (Int32.toNatClampNeg (s.1 + 1))), .ref p1], s.2)) rfl ?_
                          obtain ⟨h116, hr⟩ := mIf hr
                          refine gSald (is := List.drop 251 mC242) h116 ?_
                          obtain ⟨h117, hr⟩ := mIf hr
                          obtain ⟨q118, h119, hr⟩ := mBi hr
                          refine gCall (z := 107) (n := 2) (f := 0) (kind := 1) (a := p1) (As := [.int (mI s.2 p0 (Int32.toNatClampNeg (s.1 + 1))), .int (mI s.2 p0 (Int32.toNatClampNeg (s.1 + 2)))]) (y := 242) (is := List.drop 252 mC242) (L := [.ref p0, .ref p1, .ref p2, .int s.1]) (rest := []) (μ := s.2) rfl (by decide) (by decide) ⟨rfl, rfl⟩ rfl h117 (Nat.le_of_ble_eq_true rfl) (Nat.le_of_ble_eq_true rfl) (t107 h119) ?_
                          refine mGo.steps 5 (c' := (242, List.drop 257 mC242, [.ref p0, .ref p1, .ref p2, .int s.1], [.int (s.1 + 1), .ref p0, .ref p2, .int q118], s.2)) rfl ?_
                          refine gSald (is := List.drop 258 mC242) h115 ?_
                          refine mGo.steps 4 (c' := (242, List.drop 262 mC242, [.ref p0, .ref p1, .ref p2, .int s.1], [.int (s.1 + 2), .ref p0, .int (mI s.2 p0 (Int32.toNatClampNeg (s.1 + 1))), .ref p2, .int q118], s.2)) rfl ?_
                          refine gSald (is := List.drop 263 mC242) h116 ?_
                          obtain ⟨h120, hr⟩ := mIf hr
                          obtain ⟨q121, h122, hr⟩ := mBi hr
                          refine gCall (z := 192) (n := 2) (f := 0) (kind := 1) (a := p2) (As := [.int (mI s.2 p0 (Int32.toNatClampNeg (s.1 + 1))), .int (mI s.2 p0 (Int32.toNatClampNeg (s.1 + 2)))]) (y := 242) (is := List.drop 264 mC242) (L := [.ref p0, .ref p1, .ref p2, .int s.1]) (rest := [.int q118]) (μ := s.2) rfl (by decide) (by decide) ⟨rfl, rfl⟩ rfl h120 (Nat.le_of_ble_eq_true rfl) (Nat.le_of_ble_eq_true rfl) (t192 h122) ?_
                          rcases mIte hr with ⟨h123, hr⟩ | ⟨h123, hr⟩
                          · refine gBrT (p := q118 = q121) (y := 242) (is := List.drop 265 mC242) (L := [.ref p0, .ref p1, .ref p2, .int s.1]) (st := []) (μ := s.2) (t := 1082) rfl h123 ?_
                            exact t242L10_738 p0 p1 p2 s.2 s.1 hr hC
                          · refine gBrF (p := q118 = q121) (y := 242) (is := List.drop 265 mC242) (L := [.ref p0, .ref p1, .ref p2, .int s.1]) (st := []) (μ := s.2) (t := 1082) rfl h123 ?_
                            refine mGo.steps 1 (c' := (242, List.drop 266 mC242, [.ref p0, .ref p1, .ref p2, .int s.1], [.int 0], s.2)) rfl ?_
                            obtain rfl := Option.some.inj hr
                            rw [show r = _ from hC]
                            exact gZret rfl (by decide)
                        · refine gTs0 (w := 10) h124 rfl ?_
                          rcases mIte hr with ⟨h134, hr⟩ | ⟨h134, hr⟩
                          · refine gTs1 (w := 11) h134 rfl ?_
                            refine mGo.steps 5 (c' := (242, List.drop 272 mC242, [.ref p0, .ref p1, .ref p2, .int s.1], [.int (s.1 + 1), .ref p0, .ref p1], s.2)) rfl ?_
                            obtain ⟨h125, hr⟩ := mIf hr
                            refine gSald (is := List.drop 273 mC242) h125 ?_
                            refine mGo.steps 4 (c' := (242, List.drop 277 mC242, [.ref p0, .ref p1, .ref p2, .int s.1], [.int (s.1 + 2), .ref p0, .int (mI s.2 p0 (Int32.toNatClampNeg (s.1 + 1))), .ref p1], s.2)) rfl ?_
                            obtain ⟨h126, hr⟩ := mIf hr
                            refine gSald (is := List.drop 278 mC242) h126 ?_
                            obtain ⟨h127, hr⟩ := mIf hr
                            obtain ⟨q128, h129, hr⟩ := mBi hr
                            refine gCall (z := 108) (n := 2) (f := 0) (kind := 1) (a := p1) (As := [.int (mI s.2 p0 (Int32.toNatClampNeg (s.1 + 1))), .int (mI s.2 p0 (Int32.toNatClampNeg (s.1 + 2)))]) (y := 242) (is := List.drop 279 mC242) (L := [.ref p0, .ref p1, .ref p2, .int s.1]) (rest := []) (μ := s.2) rfl (by decide) (by decide) ⟨rfl, rfl⟩ rfl h127 (Nat.le_of_ble_eq_true rfl) (Nat.le_of_ble_eq_true rfl) (t108 h129) ?_
                            refine mGo.steps 5 (c' := (242, List.drop 284 mC242, [.ref p0, .ref p1, .ref p2, .int s.1], [.int (s.1 + 1), .ref p0, .ref p2, .int q128], s.2)) rfl ?_
                            refine gSald (is := List.drop 285 mC242) h125 ?_
                            refine mGo.steps 4 (c' := (242, List.drop 289 mC242, [.ref p0, .ref p1, .ref p2, .int s.1], [.int (s.1 + 2), .ref p0, .int (mI s.2 p0 (Int32.toNatClampNeg (s.1 + 1))), .ref p2, .int q128], s.2)) rfl ?_
                            refine gSald (is := List.drop 290 mC242) h126 ?_
                            obtain ⟨h130, hr⟩ := mIf hr
                            obtain ⟨q131, h132, hr⟩ := mBi hr
                            refine gCall (z := 193) (n := 2) (f := 0) (kind := 1) (a := p2) (As := [.int (mI s.2 p0 (Int32.toNatClampNeg (s.1 + 1))), .int (mI s.2 p0 (Int32.toNatClampNeg (s.1 + 2)))]) (y := 242) (is := List.drop 291 mC242) (L := [.ref p0, .ref p1, .ref p2, .int s.1]) (rest := [.int q128]) (μ := s.2) rfl (by decide) (by decide) ⟨rfl, rfl⟩ rfl h130 (Nat.le_of_ble_eq_true rfl) (Nat.le_of_ble_eq_true rfl) (t193 h132) ?_
                            rcases mIte hr with ⟨h133, hr⟩ | ⟨h133, hr⟩
                            · refine gBrT (p := q128 = q131) (y := 242) (is := List.drop 292 mC242) (L := [.ref p0, .ref p1, .ref p2, .int s.1]) (st := []) (μ := s.2) (t := 1082) rfl h133 ?_
                              exact t242L10_738 p0 p1 p2 s.2 s.1 hr hC
                            · refine gBrF (p := q128 = q131) (y := 242) (is := List.drop 292 mC242) (L := [.ref p0, .ref p1, .ref p2, .int s.1]) (st := []) (μ := s.2) (t := 1082) rfl h133 ?_
                              refine mGo.steps 1 (c' := (242, List.drop 293 mC242, [.ref p0, .ref p1, .ref p2, .int s.1], [.int 0], s.2)) rfl ?_
                              obtain rfl := Option.some.inj hr
                              rw [show r = _ from hC]
                              exact gZret rfl (by decide)
                          · refine gTs0 (w := 11) h134 rfl ?_
                            rcases mIte hr with ⟨h144, hr⟩ | ⟨h144, hr⟩
                            · refine gTs1 (w := 12) h144 rfl ?_
                              refine mGo.steps 5 (c' := (242, List.drop 299 mC242, [.ref p0, .ref p1, .ref p2, .int s.1], [.int (s.1 + 1), .ref p0, .ref p1], s.2)) rfl ?_
                              obtain ⟨h135, hr⟩ := mIf hr
                              refine gSald (is := List.drop 300 mC242) h135 ?_
                              refine mGo.steps 4 (c' := (242, List.drop 304 mC242, [.ref p0, .ref p1, .ref p2, .int s.1], [.int (s.1 + 2), .ref p0, .int (mI s.2 p0 (Int32.toNatClampNeg (s.1 + 1))), .ref p1], s.2)) rfl ?_
                              obtain ⟨h136, hr⟩ := mIf hr
                              refine gSald (is := List.drop 305 mC242) h136 ?_
                              obtain ⟨h137, hr⟩ := mIf hr
                              obtain ⟨q138, h139, hr⟩ := mBi hr
                              refine gCall (z := 109) (n := 2) (f := 0) (kind := 1) (a := p1) (As := [.int (mI s.2 p0 (Int32.toNatClampNeg (s.1 + 1))), .int (mI s.2 p0 (Int32.toNatClampNeg (s.1 + 2)))]) (y := 242) (is := List.drop 306 mC242) (L := [.ref p0, .ref p1, .ref p2, .int s.1]) (rest := []) (μ := s.2) rfl (by decide) (by decide) ⟨rfl, rfl⟩ rfl h137 (Nat.le_of_ble_eq_true rfl) (Nat.le_of_ble_eq_true rfl) (t109 h139) ?_
                              refine mGo.steps 5 (c' := (242, List.drop 311 mC242, [.ref p0, .ref p1, .ref p2, .int s.1], [.int (s.1 + 1), .ref p0, .ref p2, .int q138], s.2)) rfl ?_
                              refine gSald (is := List.drop 312 mC242) h135 ?_
                              refine mGo.steps 4 (c' := (242, List.drop 316 mC242, [.ref p0, .ref p1, .ref p2, .int s.1], [.int (s.1 + 2), .ref p0, .int (mI s.2 p0 (Int32.toNatClampNeg (s.1 + 1))), .ref p2, .int q138], s.2)) rfl ?_
                              refine gSald (is := List.drop 317 mC242) h136 ?_
                              obtain ⟨h140, hr⟩ := mIf hr
                              obtain ⟨q141, h142, hr⟩ := mBi hr
                              refine gCall (z := 195) (n := 2) (f := 0) (kind := 1) (a := p2) (As := [.int (mI s.2 p0 (Int32.toNatClampNeg (s.1 + 1))), .int (mI s.2 p0 (Int32.toNatClampNeg (s.1 + 2)))]) (y := 242) (is := List.drop 318 mC242) (L := [.ref p0, .ref p1, .ref p2, .int s.1]) (rest := [.int q138]) (μ := s.2) rfl (by decide) (by decide) ⟨rfl, rfl⟩ rfl h140 (Nat.le_of_ble_eq_true rfl) (Nat.le_of_ble_eq_true rfl) (t195 h142) ?_
                              rcases mIte hr with ⟨h143, hr⟩ | ⟨h143, hr⟩
                              · refine gBrT (p := q138 = q141) (y := 242) (is := List.drop 319 mC242) (L := [.ref p0, .ref p1, .ref p2, .int s.1]) (st := []) (μ := s.2) (t := 1082) rfl h143 ?_
                                exact t242L10_738 p0 p1 p2 s.2 s.1 hr hC
                              · refine gBrF (p := q138 = q141) (y := 242) (is := List.drop 319 mC242) (L := [.ref p0, .ref p1, .ref p2, .int s.1]) (st := []) (μ := s.2) (t := 1082) rfl h143 ?_
                                refine mGo.steps 1 (c' := (242, List.drop 320 mC242, [.ref p0, .ref p1, .ref p2, .int s.1], [.int 0], s.2)) rfl ?_
                                obtain rfl := Option.some.inj hr
                                rw [show r = _ from hC]
                                exact gZret rfl (by decide)
                            · refine gTs0 (w := 12) h144 rfl ?_
                              rcases mIte hr with ⟨h158, hr⟩ | ⟨h158, hr⟩
                              · refine gTs1 (w := 13) h158 rfl ?_
                                refine mGo.steps 5 (c' := (242, List.drop 326 mC242, [.ref p0, .ref p1, .ref p2, .int s.1], [.int (s.1 + 1), .ref p0, .ref p1], s.2)) rfl ?_
                                obtain ⟨h145, hr⟩ := mIf hr
                                refine gSald (is := List.drop 327 mC242) h145 ?_
                                refine mGo.steps 4 (c' := (242, List.drop 331 mC242, [.ref p0, .ref p1, .ref p2, .int s.1], [.int (s.1 + 2), .ref p0, .int (mI s.2 p0 (Int32.toNatClampNeg (s.1 + 1))), .ref p1], s.2)) rfl ?_
                                obtain ⟨h146, hr⟩ := mIf hr
                                refine gSald (is := List.drop 332 mC242) h146 ?_
                                refine mGo.steps 4 (c' := (242, List.drop 336 mC242, [.ref p0, .ref p1, .ref p2, .int s.1], [.int (s.1 + 3), .ref p0, .int (mI s.2 p0 (Int32.toNatClampNeg (s.1 + 2))), .int (mI s.2 p0 (Int32.toNatClampNeg (s.1 + 1))), .ref p1], s.2)) rfl ?_
                                obtain ⟨h147, hr⟩ := mIf hr
                                refine gSald (is := List.drop 337 mC242) h147 ?_
                                obtain ⟨h148, hr⟩ := mIf hr
                                obtain ⟨q149, h150, hr⟩ := mBi hr
                                refine gCall (z := 110) (n := 3) (f := 0) (kind := 1) (a := p1) (As := [.int (mI s.2 p0 (Int32.toNatClampNeg (s.1 + 1))), .int (mI s.2 p0 (Int32.toNatClampNeg (s.1 + 2))), .int (mI s.2 p0 (Int32.toNatClampNeg (s.1 + 3)))]) (y := 242) (is := List.drop 338 mC242) (L := [.ref p0, .ref p1, .ref p2, .int s.1]) (rest := []) (μ := s.2) rfl (by decide) (by decide) ⟨rfl, rfl⟩ rfl h148 (Nat.le_of_ble_eq_true rfl) (Nat.le_of_ble_eq_true rfl) (t110 h150) ?_
                                refine mGo.steps 5 (c' := (242, List.drop 343 mC242, [.ref p0, .ref p1, .ref p2, .int s.1], [.int (s.1 + 1), .ref p0, .ref p2, .int q149.1], q149.2)) rfl ?_
                                obtain ⟨h151, hr⟩ := mIf hr
                                refine gSald (is := List.drop 344 mC242) h151 ?_
                                refine mGo.steps 4 (c' := (242, List.drop 348 mC242, [.ref p0, .ref p1, .ref p2, .int s.1], [.int (s.1 + 2), .ref p0, .int (mI q149.2 p0 (Int32.toNatClampNeg (s.1 + 1))), .ref p2, .int q149.1], q149.2)) rfl ?_
                                obtain ⟨h152, hr⟩ := mIf hr
                                refine gSald (is := List.drop 349 mC242) h152 ?_
                                refine mGo.steps 4 (c' := (242, List.drop 353 mC242, [.ref p0, .ref p1, .ref p2, .int s.1], [.int (s.1 + 3), .ref p0, .int (mI q149.2 p0 (Int32.toNatClampNeg (s.1 + 2))), .int (mI q149.2 p0 (Int32.toNatClampNeg (s.1 + 1))), .ref p2, .int q149.1], q149.2)) rfl ?_
                                obtain ⟨h153, hr⟩ := mIf hr
                                refine gSald (is := List.drop 354 mC242) h153 ?_
                                obtain ⟨h154, hr⟩ := mIf hr
                                obtain ⟨q155, h156, hr⟩ := mBi hr
                                refine gCall (z := 198) (n := 3) (f := 0) (kind := 1) (a := p2) (As := [.int (mI q149.2 p0 (Int32.toNatClampNeg (s.1 + 1))), .int (mI q149.2 p0 (Int32.toNatClampNeg (s.1 + 2))), .int (mI q149.2 p0 (Int32.toNatClampNeg (s.1 + 3)))]) (y := 242) (is := List.drop 355 mC242) (L := [.ref p0, .ref p1, .ref p2, .int s.1]) (rest := [.int q149.1]) (μ := q149.2) rfl (by decide) (by decide) ⟨rfl, rfl⟩ rfl h154 (Nat.le_of_ble_eq_true rfl) (Nat.le_of_ble_eq_true rfl) (t198 h156) ?_
                                rcases mIte hr with ⟨h157, hr⟩ | ⟨h157, hr⟩
                                · refine gBrT (p := q149.1 = q155.1) (y := 242) (is := List.drop 356 mC242) (L := [.ref p0, .ref p1, .ref p2, .int s.1]) (st := []) (μ := q155.2) (t := 1082) rfl h157 ?_
                                  exact t242L10_738 p0 p1 p2 q155.2 s.1 hr hC
                                · refine gBrF (p := q149.1 = q155.1) (y := 242) (is := List.drop 356 mC242) (L := [.ref p0, .ref p1, .ref p2, .int s.1]) (st := []) (μ := q155.2) (t := 1082) rfl h157 ?_
                                  refine mGo.steps 1 (c' := (242, List.drop 357 mC242, [.ref p0, .ref p1, .ref p2, .int s.1], [.int 0], q155.2)) rfl ?_
                                  obtain rfl := Option.some.inj hr
                                  rw [show r = _ from hC]
                                  exact gZret rfl (by decide)
                              · refine gTs0 (w := 13) h158 rfl ?_
                                rcases mIte hr with ⟨h168, hr⟩ | ⟨h168, hr⟩
                                · refine gTs1 (w := 14) h168 rfl ?_
                                  refine mGo.steps 5 (c' := (242, List.drop 363 mC242, [.ref p0, .ref p1, .ref p2, .int s.1], [.int (s.1 + 1), .ref p0, .ref p1], s.2)) rfl ?_
                                  obtain ⟨h159, hr⟩ := mIf hr
                                  refine gSald (is := List.drop 364 mC242) h159 ?_
                                  obtain ⟨h160, hr⟩ := mIf hr
                                  obtain ⟨q161, h162, hr⟩ := mBi hr
                                  refine gCall (z := 111) (n := 1) (f := 0) (kind := 1) (a := p1) (As := [.int (mI s.2 p0 (Int32.toNatClampNeg (s.1 + 1)))]) (y := 242) (is := List.drop 365 mC242) (L := [.ref p0, .ref p1, .ref p2, .int s.1]) (rest := []) (μ := s.2) rfl (by decide) (by decide) ⟨rfl, rfl⟩ rfl h160 (Nat.le_of_ble_eq_true rfl) (Nat.le_of_ble_eq_true rfl) (t111 h162) ?_
                                  refine mGo.steps 5 (c' := (242, List.drop 370 mC242, [.ref p0, .ref p1, .ref p2, .int s.1], [.int (s.1 + 1), .ref p0, .ref p2, .int q161.1], q161.2)) rfl ?_
                                  obtain ⟨h163, hr⟩ := mIf hr
                                  refine gSald (is := List.drop 371 mC242) h163 ?_
                                  obtain ⟨h164, hr⟩ := mIf hr
                                  obtain ⟨q165, h166, hr⟩ := mBi hr
                                  refine gCall (z := 201) (n := 1) (f := 0) (kind := 1) (a := p2) (As := [.int (mI q161.2 p0 (Int32.toNatClampNeg (s.1 + 1)))]) (y := 242) (is := List.drop 372 mC242) (L := [.ref p0, .ref p1, .ref p2, .int s.1]) (rest := [.int q161.1]) (μ := q161.2) rfl (by decide) (by decide) ⟨rfl, rfl⟩ rfl h164 (Nat.le_of_ble_eq_true rfl) (Nat.le_of_ble_eq_true rfl) (t201 h166) ?_
                                  rcases mIte hr with ⟨h167, hr⟩ | ⟨h167, hr⟩
                                  · refine gBrT (p := q161.1 = q165.1) (y := 242) (is := List.drop 373 mC242) (L := [.ref p0, .ref p1, .ref p2, .int s.1]) (st := []) (μ := q165.2) (t := 1082) rfl h167 ?_
                                    exact t242L10_738 p0 p1 p2 q165.2 s.1 hr hC
                                  · refine gBrF (p := q161.1 = q165.1) (y := 242) (is := List.drop 373 mC242) (L := [.ref p0, .ref p1, .ref p2, .int s.1]) (st := []) (μ := q165.2) (t := 1082) rfl h167 ?_
                                    refine mGo.steps 1 (c' := (242, List.drop 374 mC242, [.ref p0, .ref p1, .ref p2, .int s.1], [.int 0], q165.2)) rfl ?_
                                    obtain rfl := Option.some.inj hr
                                    rw [show r = _ from hC]
                                    exact gZret rfl (by decide)
                                · refine gTs0 (w := 14) h168 rfl ?_
                                  rcases mIte hr with ⟨h180, hr⟩ | ⟨h180, hr⟩
                                  · refine gTs1 (w := 15) h180 rfl ?_
                                    refine mGo.steps 5 (c' := (242, List.drop 380 mC242, [.ref p0, .ref p1, .ref p2, .int s.1], [.int (s.1 + 1), .ref p0, .ref p1], s.2)) rfl ?_
                                    obtain ⟨h169, hr⟩ := mIf hr
                                    refine gSald (is := List.drop 381 mC242) h169 ?_
                                    refine mGo.steps 4 (c' := (242, List.drop 385 mC242, [.ref p0, .ref p1, .ref p2, .int s.1], [.int (s.1 + 2), .ref p0, .int (mI s.2 p0 (Int32.toNatClampNeg (s.1 + 1))), .ref p1], s.2)) rfl ?_
                                    obtain ⟨h170, hr⟩ := mIf hr
                                    refine gSald (is := List.drop 386 mC242) h170 ?_
                                    obtain ⟨h171, hr⟩ := mIf hr
                                    obtain ⟨q172, h173, hr⟩ := mBi hr
                                    refine gCall (z := 112) (n := 2) (f := 0) (kind := 1) (a := p1) (As := [.int (mI s.2 p0 (Int32.toNatClampNeg (s.1 + 1))), .int (mI s.2 p0 (Int32.toNatClampNeg (s.1 + 2)))]) (y := 242) (is := List.drop 387 mC242) (L := [.ref p0, .ref p1, .ref p2, .int s.1]) (rest := []) (μ := s.2) rfl (by decide) (by decide) ⟨rfl, rfl⟩ rfl h171 (Nat.le_of_ble_eq_true rfl) (Nat.le_of_ble_eq_true rfl) (t112 h173) ?_
                                    refine mGo.steps 5 (c' := (242, List.drop 392 mC242, [.ref p0, .ref p1, .ref p2, .int s.1], [.int (s.1 + 1), .ref p0, .ref p2, .int q172.1], q172.2)) rfl ?_
                                    obtain ⟨h174, hr⟩ := mIf hr
                                    refine gSald (is := List.drop 393 mC242) h174 ?_
                                    refine mGo.steps 4 (c' := (242, List.drop 397 mC242, [.ref p0, .ref p1, .ref p2, .int s.1], [.int (s.1 + 2), .ref p0, .int (mI q172.2 p0 (Int32.toNatClampNeg (s.1 + 1))), .ref p2, .int q172.1], q172.2)) rfl ?_
                                    obtain ⟨h175, hr⟩ := mIf hr
                                    refine gSald (is := List.drop 398 mC242) h175 ?_
                                    obtain ⟨h176, hr⟩ := mIf hr
                                    obtain ⟨q177, h178, hr⟩ := mBi hr
                                    refine gCall (z := 202) (n := 2) (f := 0) (kind := 1) (a := p2) (As := [.int (mI q172.2 p0 (Int32.toNatClampNeg (s.1 + 1))), .int (mI q172.2 p0 (Int32.toNatClampNeg (s.1 + 2)))]) (y := 242) (is := List.drop 399 mC242) (L := [.ref p0, .ref p1, .ref p2, .int s.1]) (rest := [.int q172.1]) (μ := q172.2) rfl (by decide) (by decide) ⟨rfl, rfl⟩ rfl h176 (Nat.le_of_ble_eq_true rfl) (Nat.le_of_ble_eq_true rfl) (t202 h178) ?_
                                    rcases mIte hr with ⟨h179, hr⟩ | ⟨h179, hr⟩
                                    · refine gBrT (p := q172.1 = q177.1) (y := 242) (is := List.drop 400 mC242) (L := [.ref p0, .ref p1, .ref p2, .int s.1]) (st := []) (μ := q177.2) (t := 1082) rfl h179 ?_
                                      exact t242L10_738 p0 p1 p2 q177.2 s.1 hr hC
                                    · refine gBrF (p := q172.1 = q177.1) (y := 242) (is := List.drop 400 mC242) (L := [.ref p0, .ref p1, .ref p2, .int s.1]) (st := []) (μ := q177.2) (t := 1082) rfl h179 ?_
                                      refine mGo.steps 1 (c' := (242, List.drop 401 mC242, [.ref p0, .ref p1, .ref p2, .int s.1], [.int 0], q177.2)) rfl ?_
                                      obtain rfl := Option.some.inj hr
                                      rw [show r = _ from hC]
                                      exact gZret rfl (by decide)
                                  · refine gTs0 (w := 15) h180 rfl ?_
                                    rcases mIte hr with ⟨h194, hr⟩ | ⟨h194, hr⟩
                                    · refine gTs1 (w := 16) h194 rfl ?_
                                      refine mGo.steps 5 (c' := (242, List.drop 407 mC242, [.ref p0, .ref p1, .ref p2, .int s.1], [.int (s.1 + 1), .ref p0, .ref p1], s.2)) rfl ?_
                                      obtain ⟨h181, hr⟩ := mIf hr
                                      refine gSald (is := List.drop 408 mC242) h181 ?_
                                      refine mGo.steps 4 (c' := (242, List.drop 412 mC242, [.ref p0, .ref p1, .ref p2, .int s.1], [.int (s.1 + 2), .ref p0, .int (mI s.2 p0 (Int32.toNatClampNeg (s.1 + 1))), .ref p1], s.2)) rfl ?_
                                      obtain ⟨h182, hr⟩ := mIf hr
                                      refine gSald (is := List.drop 413 mC242) h182 ?_
                                      refine mGo.steps 4 (c' := (242, List.drop 417 mC242, [.ref p0, .ref p1, .ref p2, .int s.1], [.int (s.1 + 3), .ref p0, .int (mI s.2 p0 (Int32.toNatClampNeg (s.1 + 2))), .int (mI s.2 p0 (Int32.toNatClampNeg (s.1 + 1))), .ref p1], s.2)) rfl ?_
                                      obtain ⟨h183, hr⟩ := mIf hr
                                      refine gSald (is := List.drop 418 mC242) h183 ?_
                                      obtain ⟨h184, hr⟩ := mIf hr
                                      obtain ⟨q185, h186, hr⟩ := mBi hr
                                      refine gCall (z := 113) (n := 3) (f := 0) (kind := 1) (a := p1) (As := [.int (mI s.2 p0 (Int32.toNatClampNeg (s.1 + 1))), .int (mI s.2 p0 (Int32.toNatClampNeg (s.1 + 2))), .int (mI s.2 p0 (Int32.toNatClampNeg (s.1 + 3)))]) (y := 242) (is := List.drop 419 mC242) (L := [.ref p0, .ref p1, .ref p2, .int s.1]) (rest := []) (μ := s.2) rfl (by decide) (by decide) ⟨rfl, rfl⟩ rfl h184 (Nat.le_of_ble_eq_true rfl) (Nat.le_of_ble_eq_true rfl) (t113 h186) ?_
                                      refine mGo.steps 5 (c' := (242, List.drop 424 mC242, [.ref p0, .ref p1, .ref p2, .int s.1], [.int (s.1 + 1), .ref p0, .ref p2, .int q185.1], q185.2)) rfl ?_
                                      obtain ⟨h187, hr⟩ := mIf hr
                                      refine gSald (is := List.drop 425 mC242) h187 ?_
                                      refine mGo.steps 4 (c' := (242, List.drop 429 mC242, [.ref p0, .ref p1, .ref p2, .int s.1], [.int (s.1 + 2), .ref p0, .int (mI q185.2 p0 (Int32.toNatClampNeg (s.1 + 1))), .ref p2, .int q185.1], q185.2)) rfl ?_
                                      obtain ⟨h188, hr⟩ := mIf hr
                                      refine gSald (is := List.drop 430 mC242) h188 ?_
                                      refine mGo.steps 4 (c' := (242, List.drop 434 mC242, [.ref p0, .ref p1, .ref p2, .int s.1], [.int (s.1 + 3), .ref p0, .int (mI q185.2 p0 (Int32.toNatClampNeg (s.1 + 2))), .int (mI q185.2 p0 (Int32.toNatClampNeg (s.1 + 1))), .ref p2, .int q185.1], q185.2)) rfl ?_
                                      obtain ⟨h189, hr⟩ := mIf hr
                                      refine gSald (is := List.drop 435 mC242) h189 ?_
                                      obtain ⟨h190, hr⟩ := mIf hr
                                      obtain ⟨q191, h192, hr⟩ := mBi hr
                                      refine gCall (z := 204) (n := 3) (f := 0) (kind := 1) (a := p2) (As := [.int (mI q185.2 p0 (Int32.toNatClampNeg (s.1 + 1))), .int (mI q185.2 p0 (Int32.toNatClampNeg (s.1 + 2))), .int (mI q185.2 p0 (Int32.toNatClampNeg (s.1 + 3)))]) (y := 242) (is := List.drop 436 mC242) (L := [.ref p0, .ref p1, .ref p2, .int s.1]) (rest := [.int q185.1]) (μ := q185.2) rfl (by decide) (by decide) ⟨rfl, rfl⟩ rfl h190 (Nat.le_of_ble_eq_true rfl) (Nat.le_of_ble_eq_true rfl) (t204 h192) ?_
                                      rcases mIte hr with ⟨h193, hr⟩ | ⟨h193, hr⟩
                                      · refine gBrT (p := q185.1 = q191.1) (y := 242) (is := List.drop 437 mC242) (L := [.ref p0, .ref p1, .ref p2, .int s.1]) (st := []) (μ := q191.2) (t := 1082) rfl h193 ?_
                                        exact t242L10_738 p0 p1 p2 q191.2 s.1 hr hC
                                      · refine gBrF (p := q185.1 = q191.1) (y := 242) (is := List.drop 437 mC242) (L := [.ref p0, .ref p1, .ref p2, .int s.1]) (st := []) (μ := q191.2) (t := 1082) rfl h193 ?_
                                        refine mGo.steps 1 (c' := (242, List.drop 438 mC242, [.ref p0, .ref p1, .ref p2, .int s.1], [.int 0], q191.2)) rfl ?_
                                        obtain rfl := Option.some.inj hr
                                        rw [show r = _ from hC]
                                        exact gZret rfl (by decide)
                                    · refine gTs0 (w := 16) h194 rfl ?_
                                      rcases mIte hr with ⟨h204, hr⟩ | ⟨h204, hr⟩
                                      · refine gTs1 (w := 17) h204 rfl ?_
                                        refine mGo.steps 5 (c' := (242, List.drop 444 mC242, [.ref p0, .ref p1, .ref p2, .int s.1], [.int (s.1 + 1), .ref p0, .ref p1], s.2)) rfl ?_
                                        obtain ⟨h195, hr⟩ := mIf hr
                                        refine gSald (is := List.drop 445 mC242) h195 ?_
                                        refine mGo.steps 4 (c' := (242, List.drop 449 mC242, [.ref p0, .ref p1, .ref p2, .int s.1], [.int (s.1 + 2), .ref p0, .int (mI s.2 p0 (Int32.toNatClampNeg (s.1 + 1))), .ref p1], s.2)) rfl ?_
                                        obtain ⟨h196, hr⟩ := mIf hr
                                        refine gSald (is := List.drop 450 mC242) h196 ?_
                                        obtain ⟨h197, hr⟩ := mIf hr
                                        obtain ⟨q198, h199, hr⟩ := mBi hr
                                        refine gCall (z := 114) (n := 2) (f := 0) (kind := 1) (a := p1) (As := [.int (mI s.2 p0 (Int32.toNatClampNeg (s.1 + 1))), .int (mI s.2 p0 (Int32.toNatClampNeg (s.1 + 2)))]) (y := 242) (is := List.drop 451 mC242) (L := [.ref p0, .ref p1, .ref p2, .int s.1]) (rest := []) (μ := s.2) rfl (by decide) (by decide) ⟨rfl, rfl⟩ rfl h197 (Nat.le_of_ble_eq_true rfl) (Nat.le_of_ble_eq_true rfl) (t114 h199) ?_
                                        refine mGo.steps 5 (c' := (242, List.drop 456 mC242, [.ref p0, .ref p1, .ref p2, .int s.1], [.int (s.1 + 1), .ref p0, .ref p2, .int q198], s.2)) rfl ?_
                                        refine gSald (is := List.drop 457 mC242) h195 ?_
                                        refine mGo.steps 4 (c' := (242, List.drop 461 mC242, [.ref p0, .ref p1, .ref p2, .int s.1], [.int (s.1 + 2), .ref p0, .int (mI s.2 p0 (Int32.toNatClampNeg (s.1 + 1))), .ref p2, .int q198], s.2)) rfl ?_
                                        refine gSald (is := List.drop 462 mC242) h196 ?_
                                        obtain ⟨h200, hr⟩ := mIf hr
                                        obtain ⟨q201, h202, hr⟩ := mBi hr
                                        refine gCall (z := 205) (n := 2) (f := 0) (kind := 1) (a := p2) (As := [.int (mI s.2 p0 (Int32.toNatClampNeg (s.1 + 1))), .int (mI s.2 p0 (Int32.toNatClampNeg (s.1 + 2)))]) (y := 242) (is := List.drop 463 mC242) (L := [.ref p0, .ref p1, .ref p2, .int s.1]) (rest := [.int q198]) (μ := s.2) rfl (by decide) (by decide) ⟨rfl, rfl⟩ rfl h200 (Nat.le_of_ble_eq_true rfl) (Nat.le_of_ble_eq_true rfl) (t205 h202) ?_
                                        rcases mIte hr with ⟨h203, hr⟩ | ⟨h203, hr⟩
                                        · refine gBrT (p := q198 = q201) (y := 242) (is := List.drop 464 mC242) (L := [.ref p0, .ref p1, .ref p2, .int s.1]) (st := []) (μ := s.2) (t := 1082) rfl h203 ?_
                                          exact t242L10_738 p0 p1 p2 s.2 s.1 hr hC
                                        · refine gBrF (p := q198 = q201) (y := 242) (is := List.drop 464 mC242) (L := [.ref p0, .ref p1, .ref p2, .int s.1]) (st := []) (μ := s.2) (t := 1082) rfl h203 ?_
                                          refine mGo.steps 1 (c' := (242, List.drop 465 mC242, [.ref p0, .ref p1, .ref p2, .int s.1], [.int 0], s.2)) rfl ?_
                                          obtain rfl := Option.some.inj hr
                                          rw [show r = _ from hC]
                                          exact gZret rfl (by decide)
                                      · refine gTs0 (w := 17) h204 rfl ?_
                                        rcases mIte hr with ⟨h216, hr⟩ | ⟨h216, hr⟩
                                        · refine gTs1 (w := 18) h216 rfl ?_
                                          refine mGo.steps 5 (c' := (242, List.drop 471 mC242, [.ref p0, .ref p1, .ref p2, .int s.1], [.int (s.1 + 1), .ref p0, .ref p1], s.2)) rfl ?_
                                          obtain ⟨h205, hr⟩ := mIf hr
                                          refine gSald (is := List.drop 472 mC242) h205 ?_
                                          refine mGo.steps 4 (c' := (242, List.drop 476 mC242, [.ref p0, .ref p1, .ref p2, .int s.1], [.int (s.1 + 2), .ref p0, .int (mI s.2 p0 (Int32.toNatClampNeg (s.1 + 1))), .ref p1], s.2)) rfl ?_
                                          obtain ⟨h206, hr⟩ := mIf hr
                                          refine gSald (is := List.drop 477 mC242) h206 ?_
                                          refine mGo.steps 4 (c' := (242, List.drop 481 mC242, [.ref p0, .ref p1, .ref p2, .int s.1], [.int (s.1 + 3), .ref p0, .int (mI s.2 p0 (Int32.toNatClampNeg (s.1 + 2))), .int (mI s.2 p0 (Int32.toNatClampNeg (s.1 + 1))), .ref p1], s.2)) rfl ?_
                                          obtain ⟨h207, hr⟩ := mIf hr
                                          refine gSald (is := List.drop 482 mC242) h207 ?_
                                          refine mGo.steps 4 (c' := (242, List.drop 486 mC242, [.ref p0, .ref p1, .ref p2, .int s.1], [.int (s.1 + 4), .ref p0, .int (mI s.2 p0 (Int32.toNatClampNeg (s.1 + 3))), .int (mI s.2 p0 (Int32.toNatClampNeg (s.1 + 2))), .int (mI s.2 p0 (Int32.toNatClampNeg (s.1 + 1))), .ref p1], s.2)) rfl ?_
                                          obtain ⟨h208, hr⟩ := mIf hr
                                          refine gSald (is := List.drop 487 mC242) h208 ?_
                                          obtain ⟨h209, hr⟩ := mIf hr
                                          obtain ⟨q210, h211, hr⟩ := mBi hr
                                          refine gCall (z := 115) (n := 4) (f := 0) (kind := 1) (a := p1) (As := [.int (mI s.2 p0 (Int32.toNatClampNeg (s.1 + 1))), .int (mI s.2 p0 (Int32.toNatClampNeg (s.1 + 2))), .int (mI s.2 p0 (Int32.toNatClampNeg (s.1 + 3))), .int (mI s.2 p0 (Int32.toNatClampNeg (s.1 + 4)))]) (y := 242) (is := List.drop 488 mC242) (L := [.ref p0, .ref p1, .ref p2, .int s.1]) (rest := []) (μ := s.2) rfl (by decide) (by decide) ⟨rfl, rfl⟩ rfl h209 (Nat.le_of_ble_eq_true rfl) (Nat.le_of_ble_eq_true rfl) (t115 h211) ?_
                                          refine mGo.steps 5 (c' := (242, List.drop 493 mC242, [.ref p0, .ref p1, .ref p2, .int s.1], [.int (s.1 + 1), .ref p0, .ref p2, .int q210], s.2)) rfl ?_
                                          refine gSald (is := List.drop 494 mC242) h205 ?_
                                          refine mGo.steps 4 (c' := (242, List.drop 498 mC242, [.ref p0, .ref p1, .ref p2, .int s.1], [.int (s.1 + 2), .ref p0, .int (mI s.2 p0 (Int32.toNatClampNeg (s.1 + 1))), .ref p2, .int q210], s.2)) rfl ?_
                                          refine gSald (is := List.drop 499 mC242) h206 ?_
                                          refine mGo.steps 4 (c' := (242, List.drop 503 mC242, [.ref p0, .ref p1, .ref p2, .int s.1], [.int (s.1 + 3), .ref p0, .int (mI s.2 p0 (Int32.toNatClampNeg (s.1 + 2))), .int (mI s.2 p0 (Int32.toNatClampNeg (s.1 + 1))), .ref p2, .int q210], s.2)) rfl ?_
                                          refine gSald (is := List.drop 504 mC242) h207 ?_
                                          refine mGo.steps 4 (c' := (242, List.drop 508 mC242, [.ref p0, .ref p1, .ref p2, .int s.1], [.int (s.1 + 4), .ref p0, .int (mI s.2 p0 (Int32.toNatClampNeg (s.1 + 3))), .int (mI s.2 p0 (Int32.toNatClampNeg (s.1 + 2))), .int (mI s.2 p0 (Int32.toNatClampNeg (s.1 + 1))), .ref p2, .int q210], s.2)) rfl ?_
                                          refine gSald (is := List.drop 509 mC242) h208 ?_
                                          obtain ⟨h212, hr⟩ := mIf hr
                                          obtain ⟨q213, h214, hr⟩ := mBi hr
                                          refine gCall (z := 206) (n := 4) (f := 0) (kind := 1) (a := p2) (As := [.int (mI s.2 p0 (Int32.toNatClampNeg (s.1 + 1))), .int (mI s.2 p0 (Int32.toNatClampNeg (s.1 + 2))), .int (mI s.2 p0 (Int32.toNatClampNeg (s.1 + 3))), .int (mI s.2 p0 (Int32.toNatClampNeg (s.1 + 4)))]) (y := 242) (is := List.drop 510 mC242) (L := [.ref p0, .ref p1, .ref p2, .int s.1]) (rest := [.int q210]) (μ := s.2) rfl (by decide) (by decide) ⟨rfl, rfl⟩ rfl h212 (Nat.le_of_ble_eq_true rfl) (Nat.le_of_ble_eq_true rfl) (t206 h214) ?_
                                          rcases mIte hr with ⟨h215, hr⟩ | ⟨h215, hr⟩
                                          · refine gBrT (p := q210 = q213) (y := 242) (is := List.drop 511 mC242) (L := [.ref p0, .ref p1, .ref p2, .int s.1]) (st := []) (μ := s.2) (t := 1082) rfl h215 ?_
                                            exact t242L10_738 p0 p1 p2 s.2 s.1 hr hC
                                          · refine gBrF (p := q210 = q213) (y := 242) (is := List.drop 511 mC242) (L := [.ref p0, .ref p1, .ref p2, .int s.1]) (st := []) (μ := s.2) (t := 1082) rfl h215 ?_
                                            refine mGo.steps 1 (c' := (242, List.drop 512 mC242, [.ref p0, .ref p1, .ref p2, .int s.1], [.int 0], s.2)) rfl ?_
                                            obtain rfl := Option.some.inj hr
                                            rw [show r = _ from hC]
                                            exact gZret rfl (by decide)
                                        · refine gTs0 (w := 18) h216 rfl ?_
                                          rcases mIte hr with ⟨h227, hr⟩ | ⟨h227, hr⟩
                                          · refine gTs1 (w := 19) h227 rfl ?_
                                            refine mGo.steps 5 (c' := (242, List.drop 518 mC242, [.ref p0, .ref p1, .ref p2, .int s.1], [.int (s.1 + 1), .ref p0, .ref p1], s.2)) rfl ?_
                                            obtain ⟨h217, hr⟩ := mIf hr
                                            refine gSald (is := List.drop 519 mC242) h217 ?_
                                            refine mGo.steps 4 (c' := (242, List.drop 523 mC242, [.ref p0, .ref p1, .ref p2, .int s.1], [.int (s.1 + 2), .ref p0, .int (mI s.2 p0 (Int32.toNatClampNeg (s.1 + 1))), .ref p1], s.2)) rfl ?_
                                            obtain ⟨h218, hr⟩ := mIf hr
                                            refine gSald (is := List.drop 524 mC242) h218 ?_
                                            refine mGo.steps 4 (c' := (242, List.drop 528 mC242, [.ref p0, .ref p1, .ref p2, .int s.1], [.int (s.1 + 3), .ref p0, .int (mI s.2 p0 (Int32.toNatClampNeg (s.1 + 2))), .int (mI s.2 p0 (Int32.toNatClampNeg (s.1 + 1))), .ref p1], s.2)) rfl ?_
                                            obtain ⟨h219, hr⟩ := mIf hr
                                            refine gSald (is := List.drop 529 mC242) h219 ?_
                                            obtain ⟨h220, hr⟩ := mIf hr
                                            obtain ⟨q221, h222, hr⟩ := mBi hr
                                            refine gCall (z := 116) (n := 3) (f := 0) (kind := 1) (a := p1) (As := [.int (mI s.2 p0 (Int32.toNatClampNeg (s.1 + 1))), .int (mI s.2 p0 (Int32.toNatClampNeg (s.1 + 2))), .int (mI s.2 p0 (Int32.toNatClampNeg (s.1 + 3)))]) (y := 242) (is := List.drop 530 mC242) (L := [.ref p0, .ref p1, .ref p2, .int s.1]) (rest := []) (μ := s.2) rfl (by decide) (by decide) ⟨rfl, rfl⟩ rfl h220 (Nat.le_of_ble_eq_true rfl) (Nat.le_of_ble_eq_true rfl) (t116 h222) ?_
                                            refine mGo.steps 5 (c' := (242, List.drop 535 mC242, [.ref p0, .ref p1, .ref p2, .int s.1], [.int (s.1 + 1), .ref p0, .ref p2, .int q221], s.2)) rfl ?_
                                            refine gSald (is := List.drop 536 mC242) h217 ?_
                                            refine mGo.steps 4 (c' := (242, List.drop 540 mC242, [.ref p0, .ref p1, .ref p2, .int s.1], [.int (s.1 + 2), .ref p0, .int (mI s.2 p0 (Int32.toNatClampNeg (s.1 + 1))), .ref p2, .int q221], s.2)) rfl ?_
                                            refine gSald (is := List.drop 541 mC242) h218 ?_
                                            refine mGo.steps 4 (c' := (242, List.drop 545 mC242, [.ref p0, .ref p1, .ref p2, .int s.1], [.int (s.1 + 3), .ref p0, .int (mI s.2 p0 (Int32.toNatClampNeg (s.1 + 2))), .int (mI s.2 p0 (Int32.toNatClampNeg (s.1 + 1))), .ref p2, .int q221], s.2)) rfl ?_
                                            refine gSald (is := List.drop 546 mC242) h219 ?_
                                            obtain ⟨h223, hr⟩ := mIf hr
                                            obtain ⟨q224, h225, hr⟩ := mBi hr
                                            refine gCall (z := 207) (n := 3) (f := 0) (kind := 1) (a := p2) (As := [.int (mI s.2 p0 (Int32.toNatClampNeg (s.1 + 1))), .int (mI s.2 p0 (Int32.toNatClampNeg (s.1 + 2))), .int (mI s.2 p0 (Int32.toNatClampNeg (s.1 + 3)))]) (y := 242) (is := List.drop 547 mC242) (L := [.ref p0, .ref p1, .ref p2, .int s.1]) (rest := [.int q221]) (μ := s.2) rfl (by decide) (by decide) ⟨rfl, rfl⟩ rfl h223 (Nat.le_of_ble_eq_true rfl) (Nat.le_of_ble_eq_true rfl) (t207 h225) ?_
                                            rcases mIte hr with ⟨h226, hr⟩ | ⟨h226, hr⟩
                                            · refine gBrT (p := q221 = q224) (y := 242) (is := List.drop 548 mC242) (L := [.ref p0, .ref p1, .ref p2, .int s.1]) (st := []) (μ := s.2) (t := 1082) rfl h226 ?_
                                              exact t242L10_738 p0 p1 p2 s.2 s.1 hr hC
                                            · refine gBrF (p := q221 = q224) (y := 242) (is := List.drop 548 mC242) (L := [.ref p0, .ref p1, .ref p2, .int s.1]) (st := []) (μ := s.2) (t := 1082) rfl h226 ?_
                                              refine mGo.steps 1 (c' := (242, List.drop 549 mC242, [.ref p0, .ref p1, .ref p2, .int s.1], [.int 0], s.2)) rfl ?_
                                              obtain rfl := Option.some.inj hr
                                              rw [show r = _ from hC]
                                              exact gZret rfl (by decide)
                                          · refine gTs0 (w := 19) h227 rfl ?_
                                            rcases mIte hr with ⟨h237, hr⟩ | ⟨h237, hr⟩
                                            · refine gTs1 (w := 20) h237 rfl ?_
                                              refine mGo.steps 5 (c' := (242, List.drop 555 mC242, [.ref p0, .ref p1, .ref p2, .int s.1], [.int (s.1 + 1), .ref p0, .ref p1], s.2)) rfl ?_
                                              obtain ⟨h228, hr⟩ := mIf hr
                                              refine gSald (is := List.drop 556 mC242) h228 ?_
                                              obtain ⟨h229, hr⟩ := mIf hr
                                              obtain ⟨q230, h231, hr⟩ := mBi hr
                                              refine gCall (z := 117) (n := 1) (f := 0) (kind := 1) (a := p1) (As := [.int (mI s.2 p0 (Int32.toNatClampNeg (s.1 + 1)))]) (y := 242) (is := List.drop 557 mC242) (L := [.ref p0, .ref p1, .ref p2, .int s.1]) (rest := []) (μ := s.2) rfl (by decide) (by decide) ⟨rfl, rfl⟩ rfl h229 (Nat.le_of_ble_eq_true rfl) (Nat.le_of_ble_eq_true rfl) (t117 h231) ?_
                                              refine mGo.steps 5 (c' := (242, List.drop 562 mC242, [.ref p0, .ref p1, .ref p2, .int s.1], [.int (s.1 + 1), .ref p0, .ref p2, .int q230.1], q230.2)) rfl ?_
                                              obtain ⟨h232, hr⟩ := mIf hr
                                              refine gSald (is := List.drop 563 mC242) h232 ?_
                                              obtain ⟨h233, hr⟩ := mIf hr
                                              obtain ⟨q234, h235, hr⟩ := mBi hr
                                              refine gCall (z := 220) (n := 1) (f := 0) (kind := 1) (a := p2) (As := [.int (mI q230.2 p0 (Int32.toNatClampNeg (s.1 + 1)))]) (y := 242) (is := List.drop 564 mC242) (L := [.ref p0, .ref p1, .ref p2, .int s.1]) (rest := [.int q230.1]) (μ := q230.2) rfl (by decide) (by decide) ⟨rfl, rfl⟩ rfl h233 (Nat.le_of_ble_eq_true rfl) (Nat.le_of_ble_eq_true rfl) (t220 h235) ?_
                                              rcases mIte hr with ⟨h236, hr⟩ | ⟨h236, hr⟩
                                              · refine gBrT (p := q230.1 = q234.1) (y := 242) (is := List.drop 565 mC242) (L := [.ref p0, .ref p1, .ref p2, .int s.1]) (st := []) (μ := q234.2) (t := 1082) rfl h236 ?_
                                                exact t242L10_738 p0 p1 p2 q234.2 s.1 hr hC
                                              · refine gBrF (p := q230.1 = q234.1) (y := 242) (is := List.drop 565 mC242) (L := [.ref p0, .ref p1, .ref p2, .int s.1]) (st := []) (μ := q234.2) (t := 1082) rfl h236 ?_
                                                refine mGo.steps 1 (c' := (242, List.drop 566 mC242, [.ref p0, .ref p1, .ref p2, .int s.1], [.int 0], q234.2)) rfl ?_
                                                obtain rfl := Option.some.inj hr
                                                rw [show r = _ from hC]
                                                exact gZret rfl (by decide)
                                            · refine gTs0 (w := 20) h237 rfl ?_
                                              rcases mIte hr with ⟨h247, hr⟩ | ⟨h247, hr⟩
                                              · refine gTs1 (w := 21) h247 rfl ?_
                                                refine mGo.steps 5 (c' := (242, List.drop 572 mC242, [.ref p0, .ref p1, .ref p2, .int s.1], [.int (s.1 + 1), .ref p0, .ref p1], s.2)) rfl ?_
                                                obtain ⟨h238, hr⟩ := mIf hr
                                                refine gSald (is := List.drop 573 mC242) h238 ?_
                                                obtain ⟨h239, hr⟩ := mIf hr
                                                obtain ⟨q240, h241, hr⟩ := mBi hr
                                                refine gCall (z := 118) (n := 1) (f := 0) (kind := 1) (a := p1) (As := [.int (mI s.2 p0 (Int32.toNatClampNeg (s.1 + 1)))]) (y := 242) (is := List.drop 574 mC242) (L := [.ref p0, .ref p1, .ref p2, .int s.1]) (rest := []) (μ := s.2) rfl (by decide) (by decide) ⟨rfl, rfl⟩ rfl h239 (Nat.le_of_ble_eq_true rfl) (Nat.le_of_ble_eq_true rfl) (t118 h241) ?_
                                                refine mGo.steps 5 (c' := (242, List.drop 579 mC242, [.ref p0, .ref p1, .ref p2, .int s.1], [.int (s.1 + 1), .ref p0, .ref p2, .int q240.1], q240.2)) rfl ?_
                                                obtain ⟨h242, hr⟩ := mIf hr
                                                refine gSald (is := List.drop 580 mC242) h242 ?_
                                                obtain ⟨h243, hr⟩ := mIf hr
                                                obtain ⟨q244, h245, hr⟩ := mBi hr
                                                refine gCall (z := 221) (n := 1) (f := 0) (kind := 1) (a := p2) (As := [.int (mI q240.2 p0 (Int32.toNatClampNeg (s.1 + 1)))]) (y := 242) (is := List.drop 581 mC242) (L := [.ref p0, .ref p1, .ref p2, .int s.1]) (rest := [.int q240.1]) (μ := q240.2) rfl (by decide) (by decide) ⟨rfl, rfl⟩ rfl h243 (Nat.le_of_ble_eq_true rfl) (Nat.le_of_ble_eq_true rfl) (t221 h245) ?_
                                                rcases mIte hr with ⟨h246, hr⟩ | ⟨h246, hr⟩
                                                · refine gBrT (p := q240.1 = q244.1) (y := 242) (is := List.drop 582 mC242) (L := [.ref p0, .ref p1, .ref p2, .int s.1]) (st := []) (μ := q244.2) (t := 1082) rfl h246 ?_
                                                  exact t242L10_738 p0 p1 p2 q244.2 s.1 hr hC
                                                · refine gBrF (p := q240.1 = q244.1) (y := 242) (is := List.drop 582 mC242) (L := [.ref p0, .ref p1, .ref p2, .int s.1]) (st := []) (μ := q244.2) (t := 1082) rfl h246 ?_
                                                  refine mGo.steps 1 (c' := (242, List.drop 583 mC242, [.ref p0, .ref p1, .ref p2, .int s.1], [.int 0], q244.2)) rfl ?_
                                                  obtain rfl := Option.some.inj hr
                                                  rw [show r = _ from hC]
                                                  exact gZret rfl (by decide)
                                              · refine gTs0 (w := 21) h247 rfl ?_
                                                rcases mIte hr with ⟨h259, hr⟩ | ⟨h259, hr⟩
                                                · refine gTs1 (w := 22) h259 rfl ?_
                                                  refine mGo.steps 5 (c' := (242, List.drop 589 mC242, [.ref p0, .ref p1, .ref p2, .int s.1], [.int (s.1 + 1), .ref p0, .ref p1], s.2)) rfl ?_
                                                  obtain ⟨h248, hr⟩ := mIf hr
                                                  refine gSald (is := List.drop 590 mC242) h248 ?_
                                                  refine mGo.steps 4 (c' := (242, List.drop 594 mC242, [.ref p0, .ref p1, .ref p2, .int s.1], [.int (s.1 + 2), .ref p0, .int (mI s.2 p0 (Int32.toNatClampNeg (s.1 + 1))), .ref p1], s.2)) rfl ?_
                                                  obtain ⟨h249, hr⟩ := mIf hr
                                                  refine gSald (is := List.drop 595 mC242) h249 ?_
                                                  obtain ⟨h250, hr⟩ := mIf hr
                                                  obtain ⟨q251, h252, hr⟩ := mBi hr
                                                  refine gCall (z := 119) (n := 2) (f := 0) (kind := 1) (a := p1) (As := [.int (mI s.2 p0 (Int32.toNatClampNeg (s.1 + 1))), .int (mI s.2 p0 (Int32.toNatClampNeg (s.1 + 2)))]) (y := 242) (is := List.drop 596 mC242) (L := [.ref p0, .ref p1, .ref p2, .int s.1]) (rest := []) (μ := s.2) rfl (by decide) (by decide) ⟨rfl, rfl⟩ rfl h250 (Nat.le_of_ble_eq_true rfl) (Nat.le_of_ble_eq_true rfl) (t119 h252) ?_
                                                  refine mGo.steps 5 (c' := (242, List.drop 601 mC242, [.ref p0, .ref p1, .ref p2, .int s.1], [.int (s.1 + 1), .ref p0, .ref p2, .int q251.1], q251.2)) rfl ?_
                                                  obtain ⟨h253, hr⟩ := mIf hr
                                                  refine gSald (is := List.drop 602 mC242) h253 ?_
                                                  refine mGo.steps 4 (c' := (242, List.drop 606 mC242, [.ref p0, .ref p1, .ref p2, .int s.1], [.int (s.1 + 2), .ref p0, .int (mI q251.2 p0 (Int32.toNatClampNeg (s.1 + 1))), .ref p2, .int q251.1], q251.2)) rfl ?_
                                                  obtain ⟨h254, hr⟩ := mIf hr
                                                  refine gSald (is := List.drop 607 mC242) h254 ?_
                                                  obtain ⟨h255, hr⟩ := mIf hr
                                                  obtain ⟨q256, h257, hr⟩ := mBi hr
                                                  refine gCall (z := 227) (n := 2) (f := 0) (kind := 1) (a := p2) (As := [.int (mI q251.2 p0 (Int32.toNatClampNeg (s.1 + 1))), .int (mI q251.2 p0 (Int32.toNatClampNeg (s.1 + 2)))]) (y := 242) (is := List.drop 608 mC242) (L := [.ref p0, .ref p1, .ref p2, .int s.1]) (rest := [.int q251.1]) (μ := q251.2) rfl (by decide) (by decide) ⟨rfl, rfl⟩ rfl h255 (Nat.le_of_ble_eq_true rfl) (Nat.le_of_ble_eq_true rfl) (t227 h257) ?_
                                                  rcases mIte hr with ⟨h258, hr⟩ | ⟨h258, hr⟩
                                                  · refine gBrT (p := q251.1 = q256.1) (y := 242) (is := List.drop 609 mC242) (L := [.ref p0, .ref p1, .ref p2, .int s.1]) (st := []) (μ := q256.2) (t := 1082) rfl h258 ?_
                                                    exact t242L10_738 p0 p1 p2 q256.2 s.1 hr hC
                                                  · refine gBrF (p := q251.1 = q256.1) (y := 242) (is := List.drop 609 mC242) (L := [.ref p0, .ref p1, .ref p2, .int s.1]) (st := []) (μ := q256.2) (t := 1082) rfl h258 ?_
                                                    refine mGo.steps 1 (c' := (242, List.drop 610 mC242, [.ref p0, .ref p1, .ref p2, .int s.1], [.int 0], q256.2)) rfl ?_
                                                    obtain rfl := Option.some.inj hr
                                                    rw [show r = _ from hC]
                                                    exact gZret rfl (by decide)
                                                · refine gTs0 (w := 22) h259 rfl ?_
                                                  rcases mIte hr with ⟨h268, hr⟩ | ⟨h268, hr⟩
                                                  · refine gTs1 (w := 23) h268 rfl ?_
                                                    refine mGo.steps 5 (c' := (242, List.drop 616 mC242, [.ref p0, .ref p1, .ref p2, .int s.1], [.int (s.1 + 1), .ref p0, .ref p1], s.2)) rfl ?_
                                                    obtain ⟨h260, hr⟩ := mIf hr
                                                    refine gSald (is := List.drop 617 mC242) h260 ?_
                                                    obtain ⟨h261, hr⟩ := mIf hr
                                                    obtain ⟨q262, h263, hr⟩ := mBi hr
                                                    refine gCall (z := 120) (n := 1) (f := 0) (kind := 1) (a := p1) (As := [.int (mI s.2 p0 (Int32.toNatClampNeg (s.1 + 1)))]) (y := 242) (is := List.drop 618 mC242) (L := [.ref p0, .ref p1, .ref p2, .int s.1]) (rest := []) (μ := s.2) rfl (by decide) (by decide) ⟨rfl, rfl⟩ rfl h261 (Nat.le_of_ble_eq_true rfl) (Nat.le_of_ble_eq_true rfl) (t120 h263) ?_
                                                    refine mGo.steps 5 (c' := (242, List.drop 623 mC242, [.ref p0, .ref p1, .ref p2, .int s.1], [.int (s.1 + 1), .ref p0, .ref p2, .int q262], s.2)) rfl ?_
                                                    refine gSald (is := List.drop 624 mC242) h260 ?_
                                                    obtain ⟨h264, hr⟩ := mIf hr
                                                    obtain ⟨q265, h266, hr⟩ := mBi hr
                                                    refine gCall (z := 228) (n := 1) (f := 0) (kind := 1) (a := p2) (As := [.int (mI s.2 p0 (Int32.toNatClampNeg (s.1 + 1)))]) (y := 242) (is := List.drop 625 mC242) (L := [.ref p0, .ref p1, .ref p2, .int s.1]) (rest := [.int q262]) (μ := s.2) rfl (by decide) (by decide) ⟨rfl, rfl⟩ rfl h264 (Nat.le_of_ble_eq_true rfl) (Nat.le_of_ble_eq_true rfl) (t228 h266) ?_
                                                    rcases mIte hr with ⟨h267, hr⟩ | ⟨h267, hr⟩
                                                    · refine gBrT (p := q262 = q265) (y := 242) (is := List.drop 626 mC242) (L := [.ref p0, .ref p1, .ref p2, .int s.1]) (st := []) (μ := s.2) (t := 1082) rfl h267 ?_
                                                      exact t242L10_738 p0 p1 p2 s.2 s.1 hr hC
                                                    · refine gBrF (p := q262 = q265) (y := 242) (is := List.drop 626 mC242) (L := [.ref p0, .ref p1, .ref p2, .int s.1]) (st := []) (μ := s.2) (t := 1082) rfl h267 ?_
                                                      refine mGo.steps 1 (c' := (242, List.drop 627 mC242, [.ref p0, .ref p1, .ref p2, .int s.1], [.int 0], s.2)) rfl ?_
                                                      obtain rfl := Option.some.inj hr
                                                      rw [show r = _ from hC]
                                                      exact gZret rfl (by decide)
                                                  · refine gTs0 (w := 23) h268 rfl ?_
                                                    rcases mIte hr with ⟨h277, hr⟩ | ⟨h277, hr⟩
                                                    · refine gTs1 (w := 24) h277 rfl ?_
                                                      refine mGo.steps 5 (c' := (242, List.drop 633 mC242, [.ref p0, .ref p1, .ref p2, .int s.1], [.int (s.1 + 1), .ref p0, .ref p1], s.2)) rfl ?_
                                                      obtain ⟨h269, hr⟩ := mIf hr
                                                      refine gSald (is := List.drop 634 mC242) h269 ?_
                                                      obtain ⟨h270, hr⟩ := mIf hr
                                                      obtain ⟨q271, h272, hr⟩ := mBi hr
                                                      refine gCall (z := 121) (n := 1) (f := 0) (kind := 1) (a := p1) (As := [.int (mI s.2 p0 (Int32.toNatClampNeg (s.1 + 1)))]) (y := 242) (is := List.drop 635 mC242) (L := [.ref p0, .ref p1, .ref p2, .int s.1]) (rest := []) (μ := s.2) rfl (by decide) (by decide) ⟨rfl, rfl⟩ rfl h270 (Nat.le_of_ble_eq_true rfl) (Nat.le_of_ble_eq_true rfl) (t121 h272) ?_
                                                      refine mGo.steps 5 (c' := (242, List.drop 640 mC242, [.ref p0, .ref p1, .ref p2, .int s.1], [.int (s.1 + 1), .ref p0, .ref p2, .int q271], s.2)) rfl ?_
                                                      refine gSald (is := List.drop 641 mC242) h269 ?_
                                                      obtain ⟨h273, hr⟩ := mIf hr
                                                      obtain ⟨q274, h275, hr⟩ := mBi hr
                                                      refine gCall (z := 229) (n := 1) (f := 0) (kind := 1) (a := p2) (As := [.int (mI s.2 p0 (Int32.toNatClampNeg (s.1 + 1)))]) (y := 242) (is := List.drop 642 mC242) (L := [.ref p0, .ref p1, .ref p2, .int s.1]) (rest := [.int q271]) (μ := s.2) rfl (by decide) (by decide) ⟨rfl, rfl⟩ rfl h273 (Nat.le_of_ble_eq_true rfl) (Nat.le_of_ble_eq_true rfl) (t229 h275) ?_
                                                      rcases mIte hr with ⟨h276, hr⟩ | ⟨h276, hr⟩
                                                      · refine gBrT (p := q271 = q274) (y := 242) (is := List.drop 643 mC242) (L := [.ref p0, .ref p1, .ref p2, .int s.1]) (st := []) (μ := s.2) (t := 1082) rfl h276 ?_
                                                        exact t242L10_738 p0 p1 p2 s.2 s.1 hr hC
                                                      · refine gBrF (p := q271 = q274) (y := 242) (is := List.drop 643 mC242) (L := [.ref p0, .ref p1, .ref p2, .int s.1]) (st := []) (μ := s.2) (t := 1082) rfl h276 ?_
                                                        refine mGo.steps 1 (c' := (242, List.drop 644 mC242, [.ref p0, .ref p1, .ref p2, .int s.1], [.int 0], s.2)) rfl ?_
                                                        obtain rfl := Option.some.inj hr
                                                        rw [show r = _ from hC]
                                                        exact gZret rfl (by decide)
                                                    · refine gTs0 (w := 24) h277 rfl ?_
                                                      rcases mIte hr with ⟨h287, hr⟩ | ⟨h287, hr⟩
                                                      · refine gTs1 (w := 25) h287 rfl ?_
                                                        refine mGo.steps 5 (c' := (242, List.drop 650 mC242, [.ref p0, .ref p1, .ref p2, .int s.1], [.int (s.1 + 1), .ref p0, .ref p1], s.2)) rfl ?_
                                                        obtain ⟨h278, hr⟩ := mIf hr
                                                        refine gSald (is := List.drop 651 mC242) h278 ?_
                                                        obtain ⟨h279, hr⟩ := mIf hr
                                                        obtain ⟨q280, h281, hr⟩ := mBi hr
                                                        refine gCall (z := 122) (n := 1) (f := 0) (kind := 1) (a := p1) (As := [.int (mI s.2 p0 (Int32.toNatClampNeg (s.1 + 1)))]) (y := 242) (is := List.drop 652 mC242) (L := [.ref p0, .ref p1, .ref p2, .int s.1]) (rest := []) (μ := s.2) rfl (by decide) (by decide) ⟨rfl, rfl⟩ rfl h279 (Nat.le_of_ble_eq_true rfl) (Nat.le_of_ble_eq_true rfl) (t122 h281) ?_
                                                        refine mGo.steps 5 (c' := (242, List.drop 657 mC242, [.ref p0, .ref p1, .ref p2, .int s.1], [.int (s.1 + 1), .ref p0, .ref p2, .int q280.1], q280.2)) rfl ?_
                                                        obtain ⟨h282, hr⟩ := mIf hr
                                                        refine gSald (is := List.drop 658 mC242) h282 ?_
                                                        obtain ⟨h283, hr⟩ := mIf hr
                                                        obtain ⟨q284, h285, hr⟩ := mBi hr
                                                        refine gCall (z := 231) (n := 1) (f := 0) (kind := 1) (a := p2) (As := [.int (mI q280.2 p0 (Int32.toNatClampNeg (s.1 + 1)))]) (y := 242) (is := List.drop 659 mC242) (L := [.ref p0, .ref p1, .ref p2, .int s.1]) (rest := [.int q280.1]) (μ := q280.2) rfl (by decide) (by decide) ⟨rfl, rfl⟩ rfl h283 (Nat.le_of_ble_eq_true rfl) (Nat.le_of_ble_eq_true rfl) (t231 h285) ?_
                                                        rcases mIte hr with ⟨h286, hr⟩ | ⟨h286, hr⟩
                                                        · refine gBrT (p := q280.1 = q284.1) (y := 242) (is := List.drop 660 mC242) (L := [.ref p0, .ref p1, .ref p2, .int s.1]) (st := []) (μ := q284.2) (t := 1082) rfl h286 ?_
                                                          exact t242L10_738 p0 p1 p2 q284.2 s.1 hr hC
                                                        · refine gBrF (p := q280.1 = q284.1) (y := 242) (is := List.drop 660 mC242) (L := [.ref p0, .ref p1, .ref p2, .int s.1]) (st := []) (μ := q284.2) (t := 1082) rfl h286 ?_
                                                          refine mGo.steps 1 (c' := (242, List.drop 661 mC242, [.ref p0, .ref p1, .ref p2, .int s.1], [.int 0], q284.2)) rfl ?_
                                                          obtain rfl := Option.some.inj hr
                                                          rw [show r = _ from hC]
                                                          exact gZret rfl (by decide)
                                                      · refine gTs0 (w := 25) h287 rfl ?_
                                                        rcases mIte hr with ⟨h296, hr⟩ | ⟨h296, hr⟩
                                                        · refine gTs1 (w := 26) h296 rfl ?_
                                                          refine mGo.steps 5 (c' := (242, List.drop 667 mC242, [.ref p0, .ref p1, .ref p2, .int s.1], [.int (s.1 + 1), .ref p0, .ref p1], s.2)) rfl ?_
                                                          obtain ⟨h288, hr⟩ := mIf hr
                                                          refine gSald (is := List.drop 668 mC242) h288 ?_
                                                          obtain ⟨h289, hr⟩ := mIf hr
                                                          obtain ⟨q290, h291, hr⟩ := mBi hr
                                                          refine gCall (z := 123) (n := 1) (f := 0) (kind := 1) (a := p1) (As := [.int (mI s.2 p0 (Int32.toNatClampNeg (s.1 + 1)))]) (y := 242) (is := List.drop 669 mC242) (L := [.ref p0, .ref p1, .ref p2, .int s.1]) (rest := []) (μ := s.2) rfl (by decide) (by decide) ⟨rfl, rfl⟩ rfl h289 (Nat.le_of_ble_eq_true rfl) (Nat.le_of_ble_eq_true rfl) (t123 h291) ?_
                                                          refine mGo.steps 5 (c' := (242, List.drop 674 mC242, [.ref p0, .ref p1, .ref p2, .int s.1], [.int (s.1 + 1), .ref p0, .ref p2, .int q290], s.2)) rfl ?_
                                                          refine gSald (is := List.drop 675 mC242) h288 ?_
                                                          obtain ⟨h292, hr⟩ := mIf hr
                                                          obtain ⟨q293, h294, hr⟩ := mBi hr
                                                          refine gCall (z := 232) (n := 1) (f := 0) (kind := 1) (a := p2) (As := [.int (mI s.2 p0 (Int32.toNatClampNeg (s.1 + 1)))]) (y := 242) (is := List.drop 676 mC242) (L := [.ref p0, .ref p1, .ref p2, .int s.1]) (rest := [.int q290]) (μ := s.2) rfl (by decide) (by decide) ⟨rfl, rfl⟩ rfl h292 (Nat.le_of_ble_eq_true rfl) (Nat.le_of_ble_eq_true rfl) (t232 h294) ?_
                                                          rcases mIte hr with ⟨h295, hr⟩ | ⟨h295, hr⟩
                                                          · refine gBrT (p := q290 = q293) (y := 242) (is := List.drop 677 mC242) (L := [.ref p0, .ref p1, .ref p2, .int s.1]) (st := []) (μ := s.2) (t := 1082) rfl h295 ?_
                                                            exact t242L10_738 p0 p1 p2 s.2 s.1 hr hC
                                                          · refine gBrF (p := q290 = q293) (y := 242) (is := List.drop 677 mC242) (L := [.ref p0, .ref p1, .ref p2, .int s.1]) (st := []) (μ := s.2) (t := 1082) rfl h295 ?_
                                                            refine mGo.steps 1 (c' := (242, List.drop 678 mC242, [.ref p0, .ref p1, .ref p2, .int s.1], [.int 0], s.2)) rfl ?_
                                                            obtain rfl := Option.some.inj hr
                                                            rw [show r = _ from hC]
                                                            exact gZret rfl (by decide)
                                                        · refine gTs0 (w := 26) h296 rfl ?_
                                                          rcases mIte hr with ⟨h305, hr⟩ | ⟨h305, hr⟩
                                                          · refine gTs1 (w := 27) h305 rfl ?_
                                                            refine mGo.steps 5 (c' := (242, List.drop 684 mC242, [.ref p0, .ref p1, .ref p2, .int s.1], [.int (s.1 + 1), .ref p0, .ref p1], s.2)) rfl ?_
                                                            obtain ⟨h297, hr⟩ := mIf hr
                                                            refine gSald (is := List.drop 685 mC242) h297 ?_
                                                            obtain ⟨h298, hr⟩ := mIf hr
                                                            obtain ⟨q299, h300, hr⟩ := mBi hr
                                                            refine gCall (z := 124) (n := 1) (f := 0) (kind := 1) (a := p1) (As := [.int (mI s.2 p0 (Int32.toNatClampNeg (s.1 + 1)))]) (y := 242) (is := List.drop 686 mC242) (L := [.ref p0, .ref p1, .ref p2, .int s.1]) (rest := []) (μ := s.2) rfl (by decide) (by decide) ⟨rfl, rfl⟩ rfl h298 (Nat.le_of_ble_eq_true rfl) (Nat.le_of_ble_eq_true rfl) (t124 h300) ?_
                                                            refine mGo.steps 5 (c' := (242, List.drop 691 mC242, [.ref p0, .ref p1, .ref p2, .int s.1], [.int (s.1 + 1), .ref p0, .ref p2, .int q299], s.2)) rfl ?_
                                                            refine gSald (is := List.drop 692 mC242) h297 ?_
                                                            obtain ⟨h301, hr⟩ := mIf hr
                                                            obtain ⟨q302, h303, hr⟩ := mBi hr
                                                            refine gCall (z := 235) (n := 1) (f := 0) (kind := 1) (a := p2) (As := [.int (mI s.2 p0 (Int32.toNatClampNeg (s.1 + 1)))]) (y := 242) (is := List.drop 693 mC242) (L := [.ref p0, .ref p1, .ref p2, .int s.1]) (rest := [.int q299]) (μ := s.2) rfl (by decide) (by decide) ⟨rfl, rfl⟩ rfl h301 (Nat.le_of_ble_eq_true rfl) (Nat.le_of_ble_eq_true rfl) (t235 h303) ?_
                                                            rcases mIte hr with ⟨h304, hr⟩ | ⟨h304, hr⟩
                                                            · refine gBrT (p := q299 = q302) (y := 242) (is := List.drop 694 mC242) (L := [.ref p0, .ref p1, .ref p2, .int s.1]) (st := []) (μ := s.2) (t := 1082) rfl h304 ?_
                                                              exact t242L10_738 p0 p1 p2 s.2 s.1 hr hC
                                                            · refine gBrF (p := q299 = q302) (y := 242) (is := List.drop 694 mC242) (L := [.ref p0, .ref p1, .ref p2, .int s.1]) (st := []) (μ := s.2) (t := 1082) rfl h304 ?_
                                                              refine mGo.steps 1 (c' := (242, List.drop 695 mC242, [.ref p0, .ref p1, .ref p2, .int s.1], [.int 0], s.2)) rfl ?_
                                                              obtain rfl := Option.some.inj hr
                                                              rw [show r = _ from hC]
                                                              exact gZret rfl (by decide)
                                                          · refine gTs0 (w := 27) h305 rfl ?_
                                                            rcases mIte hr with ⟨h315, hr⟩ | ⟨h315, hr⟩
                                                            · refine gTs1 (w := 28) h315 rfl ?_
                                                              refine mGo.steps 5 (c' := (242, List.drop 701 mC242, [.ref p0, .ref p1, .ref p2, .int s.1], [.int (s.1 + 1), .ref p0, .ref p1], s.2)) rfl ?_
                                                              obtain ⟨h306, hr⟩ := mIf hr
                                                              refine gSald (is := List.drop 702 mC242) h306 ?_
                                                              obtain ⟨h307, hr⟩ := mIf hr
                                                              obtain ⟨q308, h309, hr⟩ := mBi hr
                                                              refine gCall (z := 125) (n := 1) (f := 0) (kind := 1) (a := p1) (As := [.int (mI s.2 p0 (Int32.toNatClampNeg (s.1 + 1)))]) (y := 242) (is := List.drop 703 mC242) (L := [.ref p0, .ref p1, .ref p2, .int s.1]) (rest := []) (μ := s.2) rfl (by decide) (by decide) ⟨rfl, rfl⟩ rfl h307 (Nat.le_of_ble_eq_true rfl) (Nat.le_of_ble_eq_true rfl) (t125 h309) ?_
                                                              refine mGo.steps 5 (c' := (242, List.drop 708 mC242, [.ref p0, .ref p1, .ref p2, .int s.1], [.int (s.1 + 1), .ref p0, .ref p2, .int q308.1], q308.2)) rfl ?_
                                                              obtain ⟨h310, hr⟩ := mIf hr
                                                              refine gSald (is := List.drop 709 mC242) h310 ?_
                                                              obtain ⟨h311, hr⟩ := mIf hr
                                                              obtain ⟨q312, h313, hr⟩ := mBi hr
                                                              refine gCall (z := 236) (n := 1) (f := 0) (kind := 1) (a := p2) (As := [.int (mI q308.2 p0 (Int32.toNatClampNeg (s.1 + 1)))]) (y := 242) (is := List.drop 710 mC242) (L := [.ref p0, .ref p1, .ref p2, .int s.1]) (rest := [.int q308.1]) (μ := q308.2) rfl (by decide) (by decide) ⟨rfl, rfl⟩ rfl h311 (Nat.le_of_ble_eq_true rfl) (Nat.le_of_ble_eq_true rfl) (t236 h313) ?_
                                                              rcases mIte hr with ⟨h314, hr⟩ | ⟨h314, hr⟩
                                                              · refine gBrT (p := q308.1 = q312.1) (y := 242) (is := List.drop 711 mC242) (L := [.ref p0, .ref p1, .ref p2, .int s.1]) (st := []) (μ := q312.2) (t := 1082) rfl h314 ?_
                                                                exact t242L10_738 p0 p1 p2 q312.2 s.1 hr hC
                                                              · refine gBrF (p := q308.1 = q312.1) (y := 242) (is := List.drop 711 mC242) (L := [.ref p0, .ref p1, .ref p2, .int s.1]) (st := []) (μ := q312.2) (t := 1082) rfl h314 ?_
                                                                refine mGo.steps 1 (c' := (242, List.drop 712 mC242, [.ref p0, .ref p1, .ref p2, .int s.1], [.int 0], q312.2)) rfl ?_
                                                                obtain rfl := Option.some.inj hr
                                                                rw [show r = _ from hC]
                                                                exact gZret rfl (by decide)
                                                            · refine gTs0 (w := 28) h315 rfl ?_
                                                              rcases mIte hr with ⟨h325, hr⟩ | ⟨h325, hr⟩
                                                              · refine gTs1 (w := 29) h325 rfl ?_
                                                                refine mGo.steps 5 (c' := (242, List.drop 718 mC242, [.ref p0, .ref p1, .ref p2, .int s.1], [.int (s.1 + 1), .ref p0, .ref p1], s.2)) rfl ?_
                                                                obtain ⟨h316, hr⟩ := mIf hr
                                                                refine gSald (is := List.drop 719 mC242) h316 ?_
                                                                obtain ⟨h317, hr⟩ := mIf hr
                                                                obtain ⟨q318, h319, hr⟩ := mBi hr
                                                                refine gCall (z := 126) (n := 1) (f := 0) (kind := 1) (a := p1) (As := [.int (mI s.2 p0 (Int32.toNatClampNeg (s.1 + 1)))]) (y := 242) (is := List.drop 720 mC242) (L := [.ref p0, .ref p1, .ref p2, .int s.1]) (rest := []) (μ := s.2) rfl (by decide) (by decide) ⟨rfl, rfl⟩ rfl h317 (Nat.le_of_ble_eq_true rfl) (Nat.le_of_ble_eq_true rfl) (t126 h319) ?_
                                                                refine mGo.steps 5 (c' := (242, List.drop 725 mC242, [.ref p0, .ref p1, .ref p2, .int s.1], [.int (s.1 + 1), .ref p0, .ref p2, .int q318.1], q318.2)) rfl ?_
                                                                obtain ⟨h320, hr⟩ := mIf hr
                                                                refine gSald (is := List.drop 726 mC242) h320 ?_
                                                                obtain ⟨h321, hr⟩ := mIf hr
                                                                obtain ⟨q322, h323, hr⟩ := mBi hr
                                                                refine gCall (z := 237) (n := 1) (f := 0) (kind := 1) (a := p2) (As := [.int (mI q318.2 p0 (Int32.toNatClampNeg (s.1 + 1)))]) (y := 242) (is := List.drop 727 mC242) (L := [.ref p0, .ref p1, .ref p2, .int s.1]) (rest := [.int q318.1]) (μ := q318.2) rfl (by decide) (by decide) ⟨rfl, rfl⟩ rfl h321 (Nat.le_of_ble_eq_true rfl) (Nat.le_of_ble_eq_true rfl) (t237 h323) ?_
                                                                rcases mIte hr with ⟨h324, hr⟩ | ⟨h324, hr⟩
                                                                · refine gBrT (p := q318.1 = q322.1) (y := 242) (is := List.drop 728 mC242) (L := [.ref p0, .ref p1, .ref p2, .int s.1]) (st := []) (μ := q322.2) (t := 1082) rfl h324 ?_
                                                                  exact t242L10_738 p0 p1 p2 q322.2 s.1 hr hC
                                                                · refine gBrF (p := q318.1 = q322.1) (y := 242) (is := List.drop 728 mC242) (L := [.ref p0, .ref p1, .ref p2, .int s.1]) (st := []) (μ := q322.2) (t := 1082) rfl h324 ?_
                                                                  refine mGo.steps 1 (c' := (242, List.drop 729 mC242, [.ref p0, .ref p1, .ref p2, .int s.1], [.int 0], q322.2)) rfl ?_
                                                                  obtain rfl := Option.some.inj hr
                                                                  rw [show r = _ from hC]
                                                                  exact gZret rfl (by decide)
                                                              · refine gTs0 (w := 29) h325 rfl ?_
                                                                rcases mIte hr with ⟨h333, hr⟩ | ⟨h333, hr⟩
                                                                · refine gTs1 (w := 30) h333 rfl ?_
                                                                  refine mGo.steps 1 (c' := (242, List.drop 731 mC242, [.ref p0, .ref p1, .ref p2, .int s.1], [.ref p1], s.2)) rfl ?_
                                                                  obtain ⟨h326, hr⟩ := mIf hr
                                                                  obtain ⟨q327, h328, hr⟩ := mBi hr
                                                                  refine gCall (z := 127) (n := 0) (f := 0) (kind := 1) (a := p1) (As := []) (y := 242) (is := List.drop 732 mC242) (L := [.ref p0, .ref p1, .ref p2, .int s.1]) (rest := []) (μ := s.2) rfl (by decide) (by decide) ⟨rfl, rfl⟩ rfl h326 (Nat.le_of_ble_eq_true rfl) (Nat.le_of_ble_eq_true rfl) (t127 h328) ?_
                                                                  refine mGo.steps 1 (c' := (242, List.drop 733 mC242, [.ref p0, .ref p1, .ref p2, .int s.1], [.ref p2, .long q327], s.2)) rfl ?_
                                                                  obtain ⟨h329, hr⟩ := mIf hr
                                                                  obtain ⟨q330, h331, hr⟩ := mBi hr
                                                                  refine gCall (z := 241) (n := 0) (f := 0) (kind := 1) (a := p2) (As := []) (y := 242) (is := List.drop 734 mC242) (L := [.ref p0, .ref p1, .ref p2, .int s.1]) (rest := [.long q327]) (μ := s.2) rfl (by decide) (by decide) ⟨rfl, rfl⟩ rfl h329 (Nat.le_of_ble_eq_true rfl) (Nat.le_of_ble_eq_true rfl) (t241 h331) ?_
                                                                  refine mGo.steps 1 (c' := (242, List.drop 735 mC242, [.ref p0, .ref p1, .ref p2, .int s.1], [.int (lg_cmp q327 q330.1)], q330.2)) rfl ?_
                                                                  rcases mIte hr with ⟨h332, hr⟩ | ⟨h332, hr⟩
                                                                  · refine gBrT (p := (lg_cmp q327 q330.1) = 0) (y := 242) (is := List.drop 736 mC242) (L := [.ref p0, .ref p1, .ref p2, .int s.1]) (st := []) (μ := q330.2) (t := 1082) rfl h332 ?_
                                                                    exact t242L10_738 p0 p1 p2 q330.2 s.1 hr hC
                                                                  · refine gBrF (p := (lg_cmp q327 q330.1) = 0) (y := 242) (is := List.drop 736 mC242) (L := [.ref p0, .ref p1, .ref p2, .int s.1]) (st := []) (μ := q330.2) (t := 1082) rfl h332 ?_
                                                                    refine mGo.steps 1 (c' := (242, List.drop 737 mC242, [.ref p0, .ref p1, .ref p2, .int s.1], [.int 0], q330.2)) rfl ?_
                                                                    obtain rfl := Option.some.inj hr
                                                                    rw [show r = _ from hC]
                                                                    exact gZret rfl (by decide)
                                                                · refine gTs0 (w := 30) h333 rfl ?_
                                                                  exact t242L10_738 p0 p1 p2 s.2 s.1 hr hC
theorem t242L10l (p0 : Nat) (p1 : Nat) (p2 : Nat) {r : Option Value × mM} (n : Nat) (s : Int32 × mM) (o : (mM) ⊕ (Int32 × mM)) (hr : mLoop (s242L10 p0 p1 p2) n s = some o) (hC : Sum.elim (fun x : mM => ∀ (w0 : Value) (hw0 : mNotL w0 = true) (w1 : Value) (hw1 : mNotL w1 = true) (w2 : Value) (hw2 : mNotL w2 = true) (w3 : Value) (hw3 : mNotL w3 = true), mGo mG (242, List.drop 740 mC242, [w0, w1, w2, w3], [], x) r) (fun y : (Int32 × mM) => r = (some (.int y.1), y.2)) o) : mGo mG (242, List.drop 10 mC242, [.ref p0, .ref p1, .ref p2, .int s.1], [], s.2) r :=
  mLoop_go (Hd := (fun s' : Int32 × mM => mGo mG (242, List.drop 10 mC242, [.ref p0, .ref p1, .ref p2, .int s'.1], [], s'.2) r)) (fun s o hb hC => t242L10 p0 p1 p2 s o hb hC) n s o hr hC
def s242 (μ : mM) (a0 : Nat) : Option (Int32 × mM) :=
  (some (mNew μ 8 (mN 8))).bind fun μ1 => if (mS μ1 (mNx μ)).1 = 8 then (s96 μ1 (mNx μ)).bind fun q3 => (some (mNew q3 9 (mN 9))).bind fun μ5 => if (mS μ5 (mNx q3)).1 = 9 then (s143 μ5 (mNx q3)).bind fun q7 => (mLoop (s242L10 a0 (mNx μ) (mNx q3)) 1000 (0, q7)).bind fun o335 => Sum.elim (fun x336 => some (1, x336)) (fun y337 => some y337) o335 else none else none
set_option maxRecDepth 20000 in
theorem t242 {μ : mM} {a0 : Nat} {o : (Int32 × mM)} (hr : s242 μ a0 = some o) : mEv mG 242 [.ref a0] μ (some (.int o.1)) (o.2) := by
  obtain ⟨r, hC⟩ : ∃ r : Option Value × mM, r = (some (.int o.1), o.2) := ⟨_, rfl⟩
  show mGo mG (242, List.drop 0 mC242, [.ref a0, .retAddr 0, .retAddr 0, .retAddr 0], [], μ) (some (.int o.1), o.2)
  rw [← hC]
  unfold s242 at hr
  replace hr := mBs hr
  refine mGo.steps 1 (c' := (242, List.drop 1 mC242, [.ref a0, .retAddr 0, .retAddr 0, .retAddr 0], [.ref (mNx μ)], (mNew μ 8 (mN 8)))) rfl ?_
  let μ1 : mM := mNew μ 8 (mN 8)
  refine mGo.steps 1 (c' := (242, List.drop 2 mC242, [.ref a0, .retAddr 0, .retAddr 0, .retAddr 0], [.ref (mNx μ), .ref (mNx μ)], μ1)) rfl ?_
  obtain ⟨h2, hr⟩ := mIf hr
  obtain ⟨q3, h4, hr⟩ := mBi hr
  refine gCall (z := 96) (n := 0) (f := 0) (kind := 2) (a := (mNx μ)) (As := []) (y := 242) (is := List.drop 3 mC242) (L := [.ref a0, .retAddr 0, .retAddr 0, .retAddr 0]) (rest := [.ref (mNx μ)]) (μ := μ1) rfl (by decide) (by decide) ⟨rfl, rfl⟩ rfl h2 (Nat.le_of_ble_eq_true rfl) (Nat.le_of_ble_eq_true rfl) (t96 h4) ?_
  refine mGo.steps 1 (c' := (242, List.drop 4 mC242, [.ref a0, .ref (mNx μ), .retAddr 0, .retAddr 0], [], q3)) rfl ?_
  replace hr := mBs hr
  refine mGo.steps 1 (c' := (242, List.drop 5 mC242, [.ref a0, .ref (mNx μ), .retAddr 0, .retAddr 0], [.ref (mNx q3)], (mNew q3 9 (mN 9)))) rfl ?_
  let μ5 : mM := mNew q3 9 (mN 9)
  refine mGo.steps 1 (c' := (242, List.drop 6 mC242, [.ref a0, .ref (mNx μ), .retAddr 0, .retAddr 0], [.ref (mNx q3), .ref (mNx q3)], μ5)) rfl ?_
  obtain ⟨h6, hr⟩ := mIf hr
  obtain ⟨q7, h8, hr⟩ := mBi hr
  refine gCall (z := 143) (n := 0) (f := 0) (kind := 2) (a := (mNx q3)) (As := []) (y := 242) (is := List.drop 7 mC242) (L := [.ref a0, .ref (mNx μ), .retAddr 0, .retAddr 0]) (rest := [.ref (mNx q3)]) (μ := μ5) rfl (by decide) (by decide) ⟨rfl, rfl⟩ rfl h6 (Nat.le_of_ble_eq_true rfl) (Nat.le_of_ble_eq_true rfl) (t143 h8) ?_
  refine mGo.steps 3 (c' := (242, List.drop 10 mC242, [.ref a0, .ref (mNx μ), .ref (mNx q3), .int 0], [], q7)) rfl ?_
  obtain ⟨o335, h338, hr⟩ := mBi hr
  refine t242L10l a0 (mNx μ) (mNx q3) 1000 (0, q7) o335 h338 ?_ 
  cases o335 with
  | inl x336 =>
    show ∀ (w0 : Value) (hw0 : mNotL w0 = true) (w1 : Value) (hw1 : mNotL w1 = true) (w2 : Value) (hw2 : mNotL w2 = true) (w3 : Value) (hw3 : mNotL w3 = true), mGo mG (242, List.drop 740 mC242, [w0, w1, w2, w3], [], x336) r
    intro w0 hw0 w1 hw1 w2 hw2 w3 hw3
    replace hr : (_) = some _ := hr
    refine mGo.steps 1 (c' := (242, List.drop 741 mC242, [w0, w1, w2, w3], [.int 1], x336)) rfl ?_
    obtain rfl := Option.some.inj hr
    rw [show r = _ from hC]
    exact gZret rfl (by decide)
  | inr y337 =>
    obtain rfl := Option.some.inj hr
    exact hC
