/-! 198: TunnelFabricModel.open(III)I -/
def s198_14 (a0 : Nat) (a1 : Int32) (a2 : Int32) (a3 : Int32) (μ : mM) : Option (Int32 × mM) :=
  some ((-1), μ)
set_option maxRecDepth 20000 in
theorem t198_14 (a0 : Nat) (a1 : Int32) (a2 : Int32) (a3 : Int32) (μ : mM) (w0 : Value) (hw0 : mNotL w0 = true) (w1 : Value) (hw1 : mNotL w1 = true) (w2 : Value) (hw2 : mNotL w2 = true) (w3 : Value) (hw3 : mNotL w3 = true) (w4 : Value) (hw4 : mNotL w4 = true) (w5 : Value) (hw5 : mNotL w5 = true) (w6 : Value) (hw6 : mNotL w6 = true) (w7 : Value) (hw7 : mNotL w7 = true) {o : (Int32 × mM)} {r : Option Value × mM} (hr : s198_14 a0 a1 a2 a3 μ = some o) (hC : r = (some (.int o.1), o.2)) : mGo mG (198, List.drop 14 mC198, [w0, w1, w2, w3, w4, w5, w6, w7], [], μ) r := by
  unfold s198_14 at hr
  refine mGo.steps 1 (c' := (198, List.drop 15 mC198, [w0, w1, w2, w3, w4, w5, w6, w7], [.int (-1)], μ)) rfl ?_
  obtain rfl := Option.some.inj hr
  rw [show r = _ from hC]
  exact gIret rfl
def s198L69 (μ : mM) (p0 : Nat) (p1 : Int32) (p2 : Int32) (p3 : Int32) (p5 : Int32) (s : Int32) : Option ((Int32) ⊕ ((Int32) ⊕ (Int32 × mM))) :=
  if (mS μ p0).1 = 9 then (s159 μ p0 s 0).bind fun q19 => if ¬ q19 = 1 then (some (.inr (.inl s))) else (some (.inl (s + 1))) else none
set_option maxRecDepth 20000 in
theorem t198L69 (μ : mM) (p0 : Nat) (p1 : Int32) (p2 : Int32) (p3 : Int32) (p5 : Int32) {r : Option Value × mM} (s : Int32) (o : ((Int32) ⊕ ((Int32) ⊕ (Int32 × mM)))) (hr : s198L69 μ p0 p1 p2 p3 p5 s = some o) (hC : Sum.elim (fun s' : Int32 => ∀ (w4 : Value) (hw4 : mNotL w4 = true) (w7 : Value) (hw7 : mNotL w7 = true), mGo mG (198, List.drop 69 mC198, [.ref p0, .int p1, .int p2, .int p3, w4, .int p5, .int s', w7], [], μ) r) (Sum.elim (fun x : Int32 => ∀ (w4 : Value) (hw4 : mNotL w4 = true) (w7 : Value) (hw7 : mNotL w7 = true), mGo mG (198, List.drop 77 mC198, [.ref p0, .int p1, .int p2, .int p3, w4, .int p5, .int x, w7], [], μ) r) (fun y : (Int32 × mM) => r = (some (.int y.1), y.2))) o) : ∀ (w4 : Value) (hw4 : mNotL w4 = true) (w7 : Value) (hw7 : mNotL w7 = true), mGo mG (198, List.drop 69 mC198, [.ref p0, .int p1, .int p2, .int p3, w4, .int p5, .int s, w7], [], μ) r := by
  intro w4 hw4 w7 hw7
  unfold s198L69 at hr
  refine mGo.steps 3 (c' := (198, List.drop 72 mC198, [.ref p0, .int p1, .int p2, .int p3, w4, .int p5, .int s, w7], [.int 0, .int s, .ref p0], μ)) rfl ?_
  obtain ⟨h18, hr⟩ := mIf hr
  obtain ⟨q19, h20, hr⟩ := mBi hr
  refine gCall (z := 159) (n := 2) (f := 0) (kind := 1) (a := p0) (As := [.int s, .int 0]) (y := 198) (is := List.drop 73 mC198) (L := [.ref p0, .int p1, .int p2, .int p3, w4, .int p5, .int s, w7]) (rest := []) (μ := μ) rfl (by decide) (by decide) ⟨rfl, rfl⟩ rfl h18 (Nat.le_of_ble_eq_true rfl) (Nat.le_of_ble_eq_true rfl) (t159 h20) ?_
  refine mGo.steps 1 (c' := (198, List.drop 74 mC198, [.ref p0, .int p1, .int p2, .int p3, w4, .int p5, .int s, w7], [.int 1, .int q19], μ)) rfl ?_
  rcases mIte hr with ⟨h21, hr⟩ | ⟨h21, hr⟩
  · refine gBrT (p := ¬ q19 = 1) (y := 198) (is := List.drop 75 mC198) (L := [.ref p0, .int p1, .int p2, .int p3, w4, .int p5, .int s, w7]) (st := []) (μ := μ) (t := 139) rfl h21 ?_
    obtain rfl := Option.some.inj hr
    exact hC w4 hw4 w7 hw7
  · refine gBrF (p := ¬ q19 = 1) (y := 198) (is := List.drop 75 mC198) (L := [.ref p0, .int p1, .int p2, .int p3, w4, .int p5, .int s, w7]) (st := []) (μ := μ) (t := 139) rfl h21 ?_
    refine mGo.steps 2 (c' := (198, List.drop 69 mC198, [.ref p0, .int p1, .int p2, .int p3, w4, .int p5, .int (s + 1), w7], [], μ)) rfl ?_
    obtain rfl := Option.some.inj hr
    exact hC w4 hw4 w7 hw7
theorem t198L69l (μ : mM) (p0 : Nat) (p1 : Int32) (p2 : Int32) (p3 : Int32) (p5 : Int32) {r : Option Value × mM} (n : Nat) (s : Int32) (o : (Int32) ⊕ (Int32 × mM)) (hr : mLoop (s198L69 μ p0 p1 p2 p3 p5) n s = some o) (hC : Sum.elim (fun x : Int32 => ∀ (w4 : Value) (hw4 : mNotL w4 = true) (w7 : Value) (hw7 : mNotL w7 = true), mGo mG (198, List.drop 77 mC198, [.ref p0, .int p1, .int p2, .int p3, w4, .int p5, .int x, w7], [], μ) r) (fun y : (Int32 × mM) => r = (some (.int y.1), y.2)) o) : ∀ (w4 : Value) (hw4 : mNotL w4 = true) (w7 : Value) (hw7 : mNotL w7 = true), mGo mG (198, List.drop 69 mC198, [.ref p0, .int p1, .int p2, .int p3, w4, .int p5, .int s, w7], [], μ) r :=
  mLoop_go (Hd := (fun s' : Int32 => ∀ (w4 : Value) (hw4 : mNotL w4 = true) (w7 : Value) (hw7 : mNotL w7 = true), mGo mG (198, List.drop 69 mC198, [.ref p0, .int p1, .int p2, .int p3, w4, .int p5, .int s', w7], [], μ) r)) (fun s o hb hC => t198L69 μ p0 p1 p2 p3 p5 s o hb hC) n s o hr hC
def s198L82_88 (p0 : Nat) (p1 : Int32) (p2 : Int32) (p3 : Int32) (p5 : Int32) (p6 : Int32) (μ : mM) (v7 : Int32) (t0 : Int32) (t1 : Int32) : Option ((Int32 × mM) ⊕ ((mM) ⊕ (Int32 × mM))) :=
  if t0 ≤ t1 then (some (.inr (.inl μ))) else (if (mS μ p0).1 = 9 then (s199 μ p0 p6 p1 p2 v7).bind fun q30 => some (.inl (v7 + 1, q30)) else none)
set_option maxRecDepth 20000 in
theorem t198L82_88 (p0 : Nat) (p1 : Int32) (p2 : Int32) (p3 : Int32) (p5 : Int32) (p6 : Int32) (μ : mM) (v7 : Int32) (t0 : Int32) (t1 : Int32) (w4 : Value) (hw4 : mNotL w4 = true) {o : ((Int32 × mM) ⊕ ((mM) ⊕ (Int32 × mM)))} {r : Option Value × mM} (hr : s198L82_88 p0 p1 p2 p3 p5 p6 μ v7 t0 t1 = some o) (hC : Sum.elim (fun s' : Int32 × mM => ∀ (w4 : Value) (hw4 : mNotL w4 = true), mGo mG (198, List.drop 82 mC198, [.ref p0, .int p1, .int p2, .int p3, w4, .int p5, .int p6, .int s'.1], [], s'.2) r) (Sum.elim (fun x : mM => ∀ (w4 : Value) (hw4 : mNotL w4 = true) (w7 : Value) (hw7 : mNotL w7 = true), mGo mG (198, List.drop 97 mC198, [.ref p0, .int p1, .int p2, .int p3, w4, .int p5, .int p6, w7], [], x) r) (fun y : (Int32 × mM) => r = (some (.int y.1), y.2))) o) : mGo mG (198, List.drop 88 mC198, [.ref p0, .int p1, .int p2, .int p3, w4, .int p5, .int p6, .int v7], [.int t0, .int t1], μ) r := by
  unfold s198L82_88 at hr
  rcases mIte hr with ⟨h32, hr⟩ | ⟨h32, hr⟩
  · refine gBrT (p := t0 ≤ t1) (y := 198) (is := List.drop 89 mC198) (L := [.ref p0, .int p1, .int p2, .int p3, w4, .int p5, .int p6, .int v7]) (st := []) (μ := μ) (t := 178) rfl h32 ?_
    obtain rfl := Option.some.inj hr
    exact hC w4 hw4 (.int v7) rfl
  · refine gBrF (p := t0 ≤ t1) (y := 198) (is := List.drop 89 mC198) (L := [.ref p0, .int p1, .int p2, .int p3, w4, .int p5, .int p6, .int v7]) (st := []) (μ := μ) (t := 178) rfl h32 ?_
    refine mGo.steps 5 (c' := (198, List.drop 94 mC198, [.ref p0, .int p1, .int p2, .int p3, w4, .int p5, .int p6, .int v7], [.int v7, .int p2, .int p1, .int p6, .ref p0], μ)) rfl ?_
    obtain ⟨h29, hr⟩ := mIf hr
    obtain ⟨q30, h31, hr⟩ := mBi hr
    refine gCall (z := 199) (n := 4) (f := 0) (kind := 1) (a := p0) (As := [.int p6, .int p1, .int p2, .int v7]) (y := 198) (is := List.drop 95 mC198) (L := [.ref p0, .int p1, .int p2, .int p3, w4, .int p5, .int p6, .int v7]) (rest := []) (μ := μ) rfl (by decide) (by decide) ⟨rfl, rfl⟩ rfl h29 (Nat.le_of_ble_eq_true rfl) (Nat.le_of_ble_eq_true rfl) (t199 h31) ?_
    refine mGo.steps 2 (c' := (198, List.drop 82 mC198, [.ref p0, .int p1, .int p2, .int p3, w4, .int p5, .int p6, .int (v7 + 1)], [], q30)) rfl ?_
    obtain rfl := Option.some.inj hr
    exact hC w4 hw4
def s198L82 (p0 : Nat) (p1 : Int32) (p2 : Int32) (p3 : Int32) (p5 : Int32) (p6 : Int32) (s : Int32 × mM) : Option ((Int32 × mM) ⊕ ((mM) ⊕ (Int32 × mM))) :=
  if ¬ p1 = 0 then (s198L82_88 p0 p1 p2 p3 p5 p6 s.2 s.1 2 s.1) else (s198L82_88 p0 p1 p2 p3 p5 p6 s.2 s.1 1 s.1)
set_option maxRecDepth 20000 in
theorem t198L82 (p0 : Nat) (p1 : Int32) (p2 : Int32) (p3 : Int32) (p5 : Int32) (p6 : Int32) {r : Option Value × mM} (s : Int32 × mM) (o : ((Int32 × mM) ⊕ ((mM) ⊕ (Int32 × mM)))) (hr : s198L82 p0 p1 p2 p3 p5 p6 s = some o) (hC : Sum.elim (fun s' : Int32 × mM => ∀ (w4 : Value) (hw4 : mNotL w4 = true), mGo mG (198, List.drop 82 mC198, [.ref p0, .int p1, .int p2, .int p3, w4, .int p5, .int p6, .int s'.1], [], s'.2) r) (Sum.elim (fun x : mM => ∀ (w4 : Value) (hw4 : mNotL w4 = true) (w7 : Value) (hw7 : mNotL w7 = true), mGo mG (198, List.drop 97 mC198, [.ref p0, .int p1, .int p2, .int p3, w4, .int p5, .int p6, w7], [], x) r) (fun y : (Int32 × mM) => r = (some (.int y.1), y.2))) o) : ∀ (w4 : Value) (hw4 : mNotL w4 = true), mGo mG (198, List.drop 82 mC198, [.ref p0, .int p1, .int p2, .int p3, w4, .int p5, .int p6, .int s.1], [], s.2) r := by
  intro w4 hw4
  unfold s198L82 at hr
  refine mGo.steps 2 (c' := (198, List.drop 84 mC198, [.ref p0, .int p1, .int p2, .int p3, w4, .int p5, .int p6, .int s.1], [.int p1, .int s.1], s.2)) rfl ?_
  rcases mIte hr with ⟨h33, hr⟩ | ⟨h33, hr⟩
  · refine gBrT (p := ¬ p1 = 0) (y := 198) (is := List.drop 85 mC198) (L := [.ref p0, .int p1, .int p2, .int p3, w4, .int p5, .int p6, .int s.1]) (st := [.int s.1]) (μ := s.2) (t := 158) rfl h33 ?_
    refine mGo.steps 1 (c' := (198, List.drop 88 mC198, [.ref p0, .int p1, .int p2, .int p3, w4, .int p5, .int p6, .int s.1], [.int 2, .int s.1], s.2)) rfl ?_
    exact t198L82_88 p0 p1 p2 p3 p5 p6 s.2 s.1 2 s.1 w4 hw4 hr hC
  · refine gBrF (p := ¬ p1 = 0) (y := 198) (is := List.drop 85 mC198) (L := [.ref p0, .int p1, .int p2, .int p3, w4, .int p5, .int p6, .int s.1]) (st := [.int s.1]) (μ := s.2) (t := 158) rfl h33 ?_
    refine mGo.steps 2 (c' := (198, List.drop 88 mC198, [.ref p0, .int p1, .int p2, .int p3, w4, .int p5, .int p6, .int s.1], [.int 1, .int s.1], s.2)) rfl ?_
    exact t198L82_88 p0 p1 p2 p3 p5 p6 s.2 s.1 1 s.1 w4 hw4 hr hC
theorem t198L82l (p0 : Nat) (p1 : Int32) (p2 : Int32) (p3 : Int32) (p5 : Int32) (p6 : Int32) {r : Option Value × mM} (n : Nat) (s : Int32 × mM) (o : (mM) ⊕ (Int32 × mM)) (hr : mLoop (s198L82 p0 p1 p2 p3 p5 p6) n s = some o) (hC : Sum.elim (fun x : mM => ∀ (w4 : Value) (hw4 : mNotL w4 = true) (w7 : Value) (hw7 : mNotL w7 = true), mGo mG (198, List.drop 97 mC198, [.ref p0, .int p1, .int p2, .int p3, w4, .int p5, .int p6, w7], [], x) r) (fun y : (Int32 × mM) => r = (some (.int y.1), y.2)) o) : ∀ (w4 : Value) (hw4 : mNotL w4 = true), mGo mG (198, List.drop 82 mC198, [.ref p0, .int p1, .int p2, .int p3, w4, .int p5, .int p6, .int s.1], [], s.2) r :=
  mLoop_go (Hd := (fun s' : Int32 × mM => ∀ (w4 : Value) (hw4 : mNotL w4 = true), mGo mG (198, List.drop 82 mC198, [.ref p0, .int p1, .int p2, .int p3, w4, .int p5, .int p6, .int s'.1], [], s'.2) r)) (fun s o hb hC => t198L82 p0 p1 p2 p3 p5 p6 s o hb hC) n s o hr hC
def s198_122 (a0 : Nat) (a1 : Int32) (a2 : Int32) (a3 : Int32) (μ : mM) (v6 : Int32) (t0 : Int32) (t1 : Int32) (t2 : Int32) (t3 : Nat) : Option (Int32 × mM) :=
  if (mS μ t3).1 = 9 then (s160 μ t3 t2 t1 t0).bind fun q48 => if (mS q48 a0).1 = 9 then if (mS q48 (mP q48 a0 0)).1 = 10 ∧ mInb 432 (mS q48 (mP q48 a0 0)).2 then (s160 q48 a0 v6 5 (mI q48 (mP q48 a0 0) (Int32.toNatClampNeg 432))).bind fun q52 => if (mS q52 a0).1 = 9 then (s160 q52 a0 v6 0 1).bind fun q55 => if (mS q55 a0).1 = 9 then if (mS q55 (mP q55 a0 0)).1 = 10 ∧ mInb 432 (mS q55 (mP q55 a0 0)).2 then (some (mUI q55 (mP q55 a0 0) (Int32.toNatClampNeg 432) ((mI q55 (mP q55 a0 0) (Int32.toNatClampNeg 432)) + 1))).bind fun μ59 => (s200 μ59 a0 a1 a2).bind fun q60 => some (v6, q60) else none else none else none else none else none else none
set_option maxRecDepth 20000 in
theorem t198_122 (a0 : Nat) (a1 : Int32) (a2 : Int32) (a3 : Int32) (μ : mM) (v6 : Int32) (t0 : Int32) (t1 : Int32) (t2 : Int32) (t3 : Nat) (w3 : Value) (hw3 : mNotL w3 = true) (w4 : Value) (hw4 : mNotL w4 = true) (w5 : Value) (hw5 : mNotL w5 = true) (w7 : Value) (hw7 : mNotL w7 = true) {o : (Int32 × mM)} {r : Option Value × mM} (hr : s198_122 a0 a1 a2 a3 μ v6 t0 t1 t2 t3 = some o) (hC : r = (some (.int o.1), o.2)) : mGo mG (198, List.drop 122 mC198, [.ref a0, .int a1, .int a2, w3, w4, w5, .int v6, w7], [.int t0, .int t1, .int t2, .ref t3], μ) r := by
  unfold s198_122 at hr
  obtain ⟨h47, hr⟩ := mIf hr
  obtain ⟨q48, h49, hr⟩ := mBi hr
  refine gCall (z := 160) (n := 3) (f := 0) (kind := 1) (a := t3) (As := [.int t2, .int t1, .int t0]) (y := 198) (is := List.drop 123 mC198) (L := [.ref a0, .int a1, .int a2, w3, w4, w5, .int v6, w7]) (rest := []) (μ := μ) rfl (by decide) (by decide) ⟨rfl, rfl⟩ rfl h47 (Nat.le_of_ble_eq_true rfl) (Nat.le_of_ble_eq_true rfl) (t160 h49) ?_
  refine mGo.steps 4 (c' := (198, List.drop 127 mC198, [.ref a0, .int a1, .int a2, w3, w4, w5, .int v6, w7], [.ref a0, .int 5, .int v6, .ref a0], q48)) rfl ?_
  obtain ⟨h50, hr⟩ := mIf hr
  refine gGet (is := List.drop 128 mC198) (v := .ref (mP q48 a0 0)) h50 rfl ?_
  refine mGo.steps 1 (c' := (198, List.drop 129 mC198, [.ref a0, .int a1, .int a2, w3, w4, w5, .int v6, w7], [.int 432, .ref (mP q48 a0 0), .int 5, .int v6, .ref a0], q48)) rfl ?_
  obtain ⟨h51, hr⟩ := mIf hr
  refine gIald (is := List.drop 130 mC198) h51 ?_
  obtain ⟨q52, h53, hr⟩ := mBi hr
  refine gCall (z := 160) (n := 3) (f := 0) (kind := 1) (a := a0) (As := [.int v6, .int 5, .int (mI q48 (mP q48 a0 0) (Int32.toNatClampNeg 432))]) (y := 198) (is := List.drop 131 mC198) (L := [.ref a0, .int a1, .int a2, w3, w4, w5, .int v6, w7]) (rest := []) (μ := q48) rfl (by decide) (by decide) ⟨rfl, rfl⟩ rfl h50 (Nat.le_of_ble_eq_true rfl) (Nat.le_of_ble_eq_true rfl) (t160 h53) ?_
  refine mGo.steps 4 (c' := (198, List.drop 135 mC198, [.ref a0, .int a1, .int a2, w3, w4, w5, .int v6, w7], [.int 1, .int 0, .int v6, .ref a0], q52)) rfl ?_
  obtain ⟨h54, hr⟩ := mIf hr
  obtain ⟨q55, h56, hr⟩ := mBi hr
  refine gCall (z := 160) (n := 3) (f := 0) (kind := 1) (a := a0) (As := [.int v6, .int 0, .int 1]) (y := 198) (is := List.drop 136 mC198) (L := [.ref a0, .int a1, .int a2, w3, w4, w5, .int v6, w7]) (rest := []) (μ := q52) rfl (by decide) (by decide) ⟨rfl, rfl⟩ rfl h54 (Nat.le_of_ble_eq_true rfl) (Nat.le_of_ble_eq_true rfl) (t160 h56) ?_
  refine mGo.steps 1 (c' := (198, List.drop 137 mC198, [.ref a0, .int a1, .int a2, w3, w4, w5, .int v6, w7], [.ref a0], q55)) rfl ?_
  obtain ⟨h57, hr⟩ := mIf hr
  refine gGet (is := List.drop 138 mC198) (v := .ref (mP q55 a0 0)) h57 rfl ?_
  refine mGo.steps 2 (c' := (198, List.drop 140 mC198, [.ref a0, .int a1, .int a2, w3, w4, w5, .int v6, w7], [.int 432, .ref (mP q55 a0 0), .int 432, .ref (mP q55 a0 0)], q55)) rfl ?_
  obtain ⟨h58, hr⟩ := mIf hr
  refine gIald (is := List.drop 141 mC198) h58 ?_
  refine mGo.steps 2 (c' := (198, List.drop 143 mC198, [.ref a0, .int a1, .int a2, w3, w4, w5, .int v6, w7], [.int ((mI q55 (mP q55 a0 0) (Int32.toNatClampNeg 432)) + 1), .int 432, .ref (mP q55 a0 0)], q55)) rfl ?_
  replace hr := mBs hr
  refine gIast (is := List.drop 144 mC198) h58 ?_
  let μ59 : mM := mUI q55 (mP q55 a0 0) (Int32.toNatClampNeg 432) ((mI q55 (mP q55 a0 0) (Int32.toNatClampNeg 432)) + 1)
  refine mGo.steps 3 (c' := (198, List.drop 147 mC198, [.ref a0, .int a1, .int a2, w3, w4, w5, .int v6, w7], [.int a2, .int a1, .ref a0], μ59)) rfl ?_
  obtain ⟨q60, h61, hr⟩ := mBi hr
  refine gCall (z := 200) (n := 2) (f := 0) (kind := 1) (a := a0) (As := [.int a1, .int a2]) (y := 198) (is := List.drop 148 mC198) (L := [.ref a0, .int a1, .int a2, w3, w4, w5, .int v6, w7]) (rest := []) (μ := μ59) rfl (by decide) (by decide) ⟨rfl, rfl⟩ rfl h57 (Nat.le_of_ble_eq_true rfl) (Nat.le_of_ble_eq_true rfl) (t200 h61) ?_
  refine mGo.steps 1 (c' := (198, List.drop 149 mC198, [.ref a0, .int a1, .int a2, w3, w4, w5, .int v6, w7], [.int v6], q60)) rfl ?_
  obtain rfl := Option.some.inj hr
  rw [show r = _ from hC]
  exact gIret rfl
def s198_67 (a0 : Nat) (a1 : Int32) (a2 : Int32) (a3 : Int32) (μ : mM) (v5 : Int32) : Option (Int32 × mM) :=
  (mLoop (s198L69 μ a0 a1 a2 a3 v5) 1000 0).bind fun o22 => Sum.elim (fun x23 => if (mS μ a0).1 = 9 then (s173 μ a0 x23).bind fun q27 => (mLoop (s198L82 a0 a1 a2 a3 v5 x23) 1000 (0, q27)).bind fun o34 => Sum.elim (fun x35 => if (mS x35 a0).1 = 9 then (s160 x35 a0 x23 1 a1).bind fun q39 => if (mS q39 a0).1 = 9 then (s160 q39 a0 x23 2 a2).bind fun q42 => if (mS q42 a0).1 = 9 then (s160 q42 a0 x23 3 a3).bind fun q45 => if ¬ a1 = 0 then (s198_122 a0 a1 a2 a3 q45 x23 0 4 x23 a0) else ((s145 q45 a3 v5).bind fun q62 => s198_122 a0 a1 a2 a3 q45 x23 q62 4 x23 a0) else none else none else none) (fun y36 => some y36) o34 else none) (fun y24 => some y24) o22
set_option maxRecDepth 20000 in
theorem t198_67 (a0 : Nat) (a1 : Int32) (a2 : Int32) (a3 : Int32) (μ : mM) (v5 : Int32) (w4 : Value) (hw4 : mNotL w4 = true) (w6 : Value) (hw6 : mNotL w6 = true) (w7 : Value) (hw7 : mNotL w7 = true) {o : (Int32 × mM)} {r : Option Value × mM} (hr : s198_67 a0 a1 a2 a3 μ v5 = some o) (hC : r = (some (.int o.1), o.2)) : mGo mG (198, List.drop 67 mC198, [.ref a0, .int a1, .int a2, .int a3, w4, .int v5, w6, w7], [], μ) r := by
  unfold s198_67 at hr
  refine mGo.steps 2 (c' := (198, List.drop 69 mC198, [.ref a0, .int a1, .int a2, .int a3, w4, .int v5, .int 0, w7], [], μ)) rfl ?_
  obtain ⟨o22, h25, hr⟩ := mBi hr
  refine t198L69l μ a0 a1 a2 a3 v5 1000 0 o22 h25 ?_ w4 hw4 w7 hw7
  cases o22 with
  | inl x23 =>
    show ∀ (w4 : Value) (hw4 : mNotL w4 = true) (w7 : Value) (hw7 : mNotL w7 = true), mGo mG (198, List.drop 77 mC198, [.ref a0, .int a1, .int a2, .int a3, w4, .int v5, .int x23, w7], [], μ) r
    intro w4 hw4 w7 hw7
    replace hr : (_) = some _ := hr
    refine mGo.steps 2 (c' := (198, List.drop 79 mC198, [.ref a0, .int a1, .int a2, .int a3, w4, .int v5, .int x23, w7], [.int x23, .ref a0], μ)) rfl ?_
    obtain ⟨h26, hr⟩ := mIf hr
    obtain ⟨q27, h28, hr⟩ := mBi hr
    refine gCall (z := 173) (n := 1) (f := 0) (kind := 1) (a := a0) (As := [.int x23]) (y := 198) (is := List.drop 80 mC198) (L := [.ref a0, .int a1, .int a2, .int a3, w4, .int v5, .int x23, w7]) (rest := []) (μ := μ) rfl (by decide) (by decide) ⟨rfl, rfl⟩ rfl h26 (Nat.le_of_ble_eq_true rfl) (Nat.le_of_ble_eq_true rfl) (t173 h28) ?_
    refine mGo.steps 2 (c' := (198, List.drop 82 mC198, [.ref a0, .int a1, .int a2, .int a3, w4, .int v5, .int x23, .int 0], [], q27)) rfl ?_
    obtain ⟨o34, h37, hr⟩ := mBi hr
    refine t198L82l a0 a1 a2 a3 v5 x23 1000 (0, q27) o34 h37 ?_ w4 hw4
    cases o34 with
    | inl x35 =>
      show ∀ (w4 : Value) (hw4 : mNotL w4 = true) (w7 : Value) (hw7 : mNotL w7 = true), mGo mG (198, List.drop 97 mC198, [.ref a0, .int a1, .int a2, .int a3, w4, .int v5, .int x23, w7], [], x35) r
      intro w4 hw4 w7 hw7
      replace hr : (_) = some _ := hr
      refine mGo.steps 4 (c' := (198, List.drop 101 mC198, [.ref a0, .int a1, .int a2, .int a3, w4, .int v5, .int x23, w7], [.int a1, .int 1, .int x23, .ref a0], x35)) rfl ?_
      obtain ⟨h38, hr⟩ := mIf hr
      obtain ⟨q39, h40, hr⟩ := mBi hr
      refine gCall (z := 160) (n := 3) (f := 0) (kind := 1) (a := a0) (As := [.int x23, .int 1, .int a1]) (y := 198) (is := List.drop 102 mC198) (L := [.ref a0, .int a1, .int a2, .int a3, w4, .int v5, .int x23, w7]) (rest := []) (μ := x35) rfl (by decide) (by decide) ⟨rfl, rfl⟩ rfl h38 (Nat.le_of_ble_eq_true rfl) (Nat.le_of_ble_eq_true rfl) (t160 h40) ?_
      refine mGo.steps 4 (c' := (198, List.drop 106 mC198, [.ref a0, .int a1, .int a2, .int a3, w4, .int v5, .int x23, w7], [.int a2, .int 2, .int x23, .ref a0], q39)) rfl ?_
      obtain ⟨h41, hr⟩ := mIf hr
      obtain ⟨q42, h43, hr⟩ := mBi hr
      refine gCall (z := 160) (n := 3) (f := 0) (kind := 1) (a := a0) (As := [.int x23, .int 2, .int a2]) (y := 198) (is := List.drop 107 mC198) (L := [.ref a0, .int a1, .int a2, .int a3, w4, .int v5, .int x23, w7]) (rest := []) (μ := q39) rfl (by decide) (by decide) ⟨rfl, rfl⟩ rfl h41 (Nat.le_of_ble_eq_true rfl) (Nat.le_of_ble_eq_true rfl) (t160 h43) ?_
      refine mGo.steps 4 (c' := (198, List.drop 111 mC198, [.ref a0, .int a1, .int a2, .int a3, w4, .int v5, .int x23, w7], [.int a3, .int 3, .int x23, .ref a0], q42)) rfl ?_
      obtain ⟨h44, hr⟩ := mIf hr
      obtain ⟨q45, h46, hr⟩ := mBi hr
      refine gCall (z := 160) (n := 3) (f := 0) (kind := 1) (a := a0) (As := [.int x23, .int 3, .int a3]) (y := 198) (is := List.drop 112 mC198) (L := [.ref a0, .int a1, .int a2, .int a3, w4, .int v5, .int x23, w7]) (rest := []) (μ := q42) rfl (by decide) (by decide) ⟨rfl, rfl⟩ rfl h44 (Nat.le_of_ble_eq_true rfl) (Nat.le_of_ble_eq_true rfl) (t160 h46) ?_
      refine mGo.steps 4 (c' := (198, List.drop 116 mC198, [.ref a0, .int a1, .int a2, .int a3, w4, .int v5, .int x23, w7], [.int a1, .int 4, .int x23, .ref a0], q45)) rfl ?_
      rcases mIte hr with ⟨h64, hr⟩ | ⟨h64, hr⟩
      · refine gBrT (p := ¬ a1 = 0) (y := 198) (is := List.drop 117 mC198) (L := [.ref a0, .int a1, .int a2, .int a3, w4, .int v5, .int x23, w7]) (st := [.int 4, .int x23, .ref a0]) (μ := q45) (t := 219) rfl h64 ?_
        refine mGo.steps 1 (c' := (198, List.drop 122 mC198, [.ref a0, .int a1, .int a2, .int a3, w4, .int v5, .int x23, w7], [.int 0, .int 4, .int x23, .ref a0], q45)) rfl ?_
        exact t198_122 a0 a1 a2 a3 q45 x23 0 4 x23 a0 (.int a3) rfl w4 hw4 (.int v5) rfl w7 hw7 hr hC
      · refine gBrF (p := ¬ a1 = 0) (y := 198) (is := List.drop 117 mC198) (L := [.ref a0, .int a1, .int a2, .int a3, w4, .int v5, .int x23, w7]) (st := [.int 4, .int x23, .ref a0]) (μ := q45) (t := 219) rfl h64 ?_
        refine mGo.steps 2 (c' := (198, List.drop 119 mC198, [.ref a0, .int a1, .int a2, .int a3, w4, .int v5, .int x23, w7], [.int v5, .int a3, .int 4, .int x23, .ref a0], q45)) rfl ?_
        obtain ⟨q62, h63, hr⟩ := mBi hr
        refine mGo.call (z := 145) (as := [.int a3, .int v5]) (y := 198) (is := List.drop 120 mC198) (L := [.ref a0, .int a1, .int a2, .int a3, w4, .int v5, .int x23, w7]) (st := [.int 4, .int x23, .ref a0]) (μ := q45) rfl (t145 h63) ?_
        refine mGo.steps 1 (c' := (198, List.drop 122 mC198, [.ref a0, .int a1, .int a2, .int a3, w4, .int v5, .int x23, w7], [.int q62, .int 4, .int x23, .ref a0], q45)) rfl ?_
        exact t198_122 a0 a1 a2 a3 q45 x23 q62 4 x23 a0 (.int a3) rfl w4 hw4 (.int v5) rfl w7 hw7 hr hC
    | inr y36 =>
      obtain rfl := Option.some.inj hr
      exact hC
  | inr y24 =>
    obtain rfl := Option.some.inj hr
    exact hC
def s198_52 (a0 : Nat) (a1 : Int32) (a2 : Int32) (a3 : Int32) (μ : mM) (t0 : Int32) : Option (Int32 × mM) :=
  if t0 = 0 then (if (mS μ a0).1 = 9 then (s169 μ a0 a2).bind fun q16 => if ¬ a1 = 0 then (s198_67 a0 a1 a2 a3 μ q16) else (if ¬ q16 = 0 then (s198_67 a0 a1 a2 a3 μ q16) else (some ((-7), μ))) else none) else (some (t0, μ))
set_option maxRecDepth 20000 in
theorem t198_52 (a0 : Nat) (a1 : Int32) (a2 : Int32) (a3 : Int32) (μ : mM) (t0 : Int32) (w4 : Value) (hw4 : mNotL w4 = true) (w5 : Value) (hw5 : mNotL w5 = true) (w6 : Value) (hw6 : mNotL w6 = true) (w7 : Value) (hw7 : mNotL w7 = true) {o : (Int32 × mM)} {r : Option Value × mM} (hr : s198_52 a0 a1 a2 a3 μ t0 = some o) (hC : r = (some (.int o.1), o.2)) : mGo mG (198, List.drop 52 mC198, [.ref a0, .int a1, .int a2, .int a3, w4, w5, w6, w7], [.int t0], μ) r := by
  unfold s198_52 at hr
  refine mGo.steps 2 (c' := (198, List.drop 54 mC198, [.ref a0, .int a1, .int a2, .int a3, .int t0, w5, w6, w7], [.int t0], μ)) rfl ?_
  rcases mIte hr with ⟨h67, hr⟩ | ⟨h67, hr⟩
  · refine gBrT (p := t0 = 0) (y := 198) (is := List.drop 55 mC198) (L := [.ref a0, .int a1, .int a2, .int a3, .int t0, w5, w6, w7]) (st := []) (μ := μ) (t := 100) rfl h67 ?_
    refine mGo.steps 2 (c' := (198, List.drop 59 mC198, [.ref a0, .int a1, .int a2, .int a3, .int t0, w5, w6, w7], [.int a2, .ref a0], μ)) rfl ?_
    obtain ⟨h15, hr⟩ := mIf hr
    obtain ⟨q16, h17, hr⟩ := mBi hr
    refine gCall (z := 169) (n := 1) (f := 0) (kind := 1) (a := a0) (As := [.int a2]) (y := 198) (is := List.drop 60 mC198) (L := [.ref a0, .int a1, .int a2, .int a3, .int t0, w5, w6, w7]) (rest := []) (μ := μ) rfl (by decide) (by decide) ⟨rfl, rfl⟩ rfl h15 (Nat.le_of_ble_eq_true rfl) (Nat.le_of_ble_eq_true rfl) (t169 h17) ?_
    refine mGo.steps 2 (c' := (198, List.drop 62 mC198, [.ref a0, .int a1, .int a2, .int a3, .int t0, .int q16, w6, w7], [.int a1], μ)) rfl ?_
    rcases mIte hr with ⟨h66, hr⟩ | ⟨h66, hr⟩
    · refine gBrT (p := ¬ a1 = 0) (y := 198) (is := List.drop 63 mC198) (L := [.ref a0, .int a1, .int a2, .int a3, .int t0, .int q16, w6, w7]) (st := []) (μ := μ) (t := 119) rfl h66 ?_
      exact t198_67 a0 a1 a2 a3 μ q16 (.int t0) rfl w6 hw6 w7 hw7 hr hC
    · refine gBrF (p := ¬ a1 = 0) (y := 198) (is := List.drop 63 mC198) (L := [.ref a0, .int a1, .int a2, .int a3, .int t0, .int q16, w6, w7]) (st := []) (μ := μ) (t := 119) rfl h66 ?_
      refine mGo.steps 1 (c' := (198, List.drop 64 mC198, [.ref a0, .int a1, .int a2, .int a3, .int t0, .int q16, w6, w7], [.int q16], μ)) rfl ?_
      rcases mIte hr with ⟨h65, hr⟩ | ⟨h65, hr⟩
      · refine gBrT (p := ¬ q16 = 0) (y := 198) (is := List.drop 65 mC198) (L := [.ref a0, .int a1, .int a2, .int a3, .int t0, .int q16, w6, w7]) (st := []) (μ := μ) (t := 119) rfl h65 ?_
        exact t198_67 a0 a1 a2 a3 μ q16 (.int t0) rfl w6 hw6 w7 hw7 hr hC
      · refine gBrF (p := ¬ q16 = 0) (y := 198) (is := List.drop 65 mC198) (L := [.ref a0, .int a1, .int a2, .int a3, .int t0, .int q16, w6, w7]) (st := []) (μ := μ) (t := 119) rfl h65 ?_
        refine mGo.steps 1 (c' := (198, List.drop 66 mC198, [.ref a0, .int a1, .int a2, .int a3, .int t0, .int q16, w6, w7], [.int (-7)], μ)) rfl ?_
        obtain rfl := Option.some.inj hr
        rw [show r = _ from hC]
        exact gIret rfl
  · refine gBrF (p := t0 = 0) (y := 198) (is := List.drop 55 mC198) (L := [.ref a0, .int a1, .int a2, .int a3, .int t0, w5, w6, w7]) (st := []) (μ := μ) (t := 100) rfl h67 ?_
    refine mGo.steps 1 (c' := (198, List.drop 56 mC198, [.ref a0, .int a1, .int a2, .int a3, .int t0, w5, w6, w7], [.int t0], μ)) rfl ?_
    obtain rfl := Option.some.inj hr
    rw [show r = _ from hC]
    exact gIret rfl
def s198_34 (a0 : Nat) (a1 : Int32) (a2 : Int32) (a3 : Int32) (μ : mM) (t0 : Int32) (t1 : Int32) : Option (Int32 × mM) :=
  if ¬ t1 = t0 then (if (mS μ a0).1 = 9 then (s197 μ a0 a1 a2 1).bind fun q13 => if ¬ q13 = 0 then (s198_52 a0 a1 a2 a3 μ q13) else ((s197 μ a0 a1 a2 0).bind fun q68 => s198_52 a0 a1 a2 a3 μ q68) else none) else (some ((-5), μ))
set_option maxRecDepth 20000 in
theorem t198_34 (a0 : Nat) (a1 : Int32) (a2 : Int32) (a3 : Int32) (μ : mM) (t0 : Int32) (t1 : Int32) (w4 : Value) (hw4 : mNotL w4 = true) (w5 : Value) (hw5 : mNotL w5 = true) (w6 : Value) (hw6 : mNotL w6 = true) (w7 : Value) (hw7 : mNotL w7 = true) {o : (Int32 × mM)} {r : Option Value × mM} (hr : s198_34 a0 a1 a2 a3 μ t0 t1 = some o) (hC : r = (some (.int o.1), o.2)) : mGo mG (198, List.drop 34 mC198, [.ref a0, .int a1, .int a2, .int a3, w4, w5, w6, w7], [.int t0, .int t1], μ) r := by
  unfold s198_34 at hr
  rcases mIte hr with ⟨h71, hr⟩ | ⟨h71, hr⟩
  · refine gBrT (p := ¬ t1 = t0) (y := 198) (is := List.drop 35 mC198) (L := [.ref a0, .int a1, .int a2, .int a3, w4, w5, w6, w7]) (st := []) (μ := μ) (t := 64) rfl h71 ?_
    refine mGo.steps 4 (c' := (198, List.drop 41 mC198, [.ref a0, .int a1, .int a2, .int a3, w4, w5, w6, w7], [.int 1, .int a2, .int a1, .ref a0], μ)) rfl ?_
    obtain ⟨h12, hr⟩ := mIf hr
    obtain ⟨q13, h14, hr⟩ := mBi hr
    refine gCall (z := 197) (n := 3) (f := 0) (kind := 1) (a := a0) (As := [.int a1, .int a2, .int 1]) (y := 198) (is := List.drop 42 mC198) (L := [.ref a0, .int a1, .int a2, .int a3, w4, w5, w6, w7]) (rest := []) (μ := μ) rfl (by decide) (by decide) ⟨rfl, rfl⟩ rfl h12 (Nat.le_of_ble_eq_true rfl) (Nat.le_of_ble_eq_true rfl) (t197 h14) ?_
    refine mGo.steps 2 (c' := (198, List.drop 44 mC198, [.ref a0, .int a1, .int a2, .int a3, .int q13, w5, w6, w7], [.int q13], μ)) rfl ?_
    rcases mIte hr with ⟨h70, hr⟩ | ⟨h70, hr⟩
    · refine gBrT (p := ¬ q13 = 0) (y := 198) (is := List.drop 45 mC198) (L := [.ref a0, .int a1, .int a2, .int a3, .int q13, w5, w6, w7]) (st := []) (μ := μ) (t := 88) rfl h70 ?_
      refine mGo.steps 1 (c' := (198, List.drop 52 mC198, [.ref a0, .int a1, .int a2, .int a3, .int q13, w5, w6, w7], [.int q13], μ)) rfl ?_
      exact t198_52 a0 a1 a2 a3 μ q13 (.int q13) rfl w5 hw5 w6 hw6 w7 hw7 hr hC
    · refine gBrF (p := ¬ q13 = 0) (y := 198) (is := List.drop 45 mC198) (L := [.ref a0, .int a1, .int a2, .int a3, .int q13, w5, w6, w7]) (st := []) (μ := μ) (t := 88) rfl h70 ?_
      refine mGo.steps 4 (c' := (198, List.drop 49 mC198, [.ref a0, .int a1, .int a2, .int a3, .int q13, w5, w6, w7], [.int 0, .int a2, .int a1, .ref a0], μ)) rfl ?_
      obtain ⟨q68, h69, hr⟩ := mBi hr
      refine gCall (z := 197) (n := 3) (f := 0) (kind := 1) (a := a0) (As := [.int a1, .int a2, .int 0]) (y := 198) (is := List.drop 50 mC198) (L := [.ref a0, .int a1, .int a2, .int a3, .int q13, w5, w6, w7]) (rest := []) (μ := μ) rfl (by decide) (by decide) ⟨rfl, rfl⟩ rfl h12 (Nat.le_of_ble_eq_true rfl) (Nat.le_of_ble_eq_true rfl) (t197 h69) ?_
      refine mGo.steps 1 (c' := (198, List.drop 52 mC198, [.ref a0, .int a1, .int a2, .int a3, .int q13, w5, w6, w7], [.int q68], μ)) rfl ?_
      exact t198_52 a0 a1 a2 a3 μ q68 (.int q13) rfl w5 hw5 w6 hw6 w7 hw7 hr hC
  · refine gBrF (p := ¬ t1 = t0) (y := 198) (is := List.drop 35 mC198) (L := [.ref a0, .int a1, .int a2, .int a3, w4, w5, w6, w7]) (st := []) (μ := μ) (t := 64) rfl h71 ?_
    refine mGo.steps 1 (c' := (198, List.drop 36 mC198, [.ref a0, .int a1, .int a2, .int a3, w4, w5, w6, w7], [.int (-5)], μ)) rfl ?_
    obtain rfl := Option.some.inj hr
    rw [show r = _ from hC]
    exact gIret rfl
def s198 (μ : mM) (a0 : Nat) (a1 : Int32) (a2 : Int32) (a3 : Int32) : Option (Int32 × mM) :=
  (s144 μ a1 0 2).bind fun q1 => if q1 = 0 then (s198_14 a0 a1 a2 a3 μ) else (if (mS μ a0).1 = 9 then (s150 μ a0 a2).bind fun q4 => if q4 = 0 then (s198_14 a0 a1 a2 a3 μ) else ((s144 μ a3 1 12).bind fun q6 => if ¬ q6 = 0 then ((s148 μ a0 a2 1).bind fun q8 => if q8 = (a1 + 1) then ((s196 μ a0 a1).bind fun q10 => if ¬ a1 = 0 then (s198_34 a0 a1 a2 a3 μ 4 q10) else (s198_34 a0 a1 a2 a3 μ 2 q10)) else (some ((-2), μ))) else (s198_14 a0 a1 a2 a3 μ)) else none)
set_option maxRecDepth 20000 in
theorem t198 {μ : mM} {a0 : Nat} {a1 : Int32} {a2 : Int32} {a3 : Int32} {o : (Int32 × mM)} (hr : s198 μ a0 a1 a2 a3 = some o) : mEv mG 198 [.ref a0, .int a1, .int a2, .int a3] μ (some (.int o.1)) (o.2) := by
  obtain ⟨r, hC⟩ : ∃ r : Option Value × mM, r = (some (.int o.1), o.2) := ⟨_, rfl⟩
  show mGo mG (198, List.drop 0 mC198, [.ref a0, .int a1, .int a2, .int a3, .retAddr 0, .retAddr 0, .retAddr 0, .retAddr 0], [], μ) (some (.int o.1), o.2)
  rw [← hC]
  unfold s198 at hr
  refine mGo.steps 3 (c' := (198, List.drop 3 mC198, [.ref a0, .int a1, .int a2, .int a3, .retAddr 0, .retAddr 0, .retAddr 0, .retAddr 0], [.int 2, .int 0, .int a1], μ)) rfl ?_
  obtain ⟨q1, h2, hr⟩ := mBi hr
  refine mGo.call (z := 144) (as := [.int a1, .int 0, .int 2]) (y := 198) (is := List.drop 4 mC198) (L := [.ref a0, .int a1, .int a2, .int a3, .retAddr 0, .retAddr 0, .retAddr 0, .retAddr 0]) (st := []) (μ := μ) rfl (t144 h2) ?_
  rcases mIte hr with ⟨h76, hr⟩ | ⟨h76, hr⟩
  · refine gBrT (p := q1 = 0) (y := 198) (is := List.drop 5 mC198) (L := [.ref a0, .int a1, .int a2, .int a3, .retAddr 0, .retAddr 0, .retAddr 0, .retAddr 0]) (st := []) (μ := μ) (t := 27) rfl h76 ?_
    exact t198_14 a0 a1 a2 a3 μ (.ref a0) rfl (.int a1) rfl (.int a2) rfl (.int a3) rfl (.retAddr 0) rfl (.retAddr 0) rfl (.retAddr 0) rfl (.retAddr 0) rfl hr hC
  · refine gBrF (p := q1 = 0) (y := 198) (is := List.drop 5 mC198) (L := [.ref a0, .int a1, .int a2, .int a3, .retAddr 0, .retAddr 0, .retAddr 0, .retAddr 0]) (st := []) (μ := μ) (t := 27) rfl h76 ?_
    refine mGo.steps 2 (c' := (198, List.drop 7 mC198, [.ref a0, .int a1, .int a2, .int a3, .retAddr 0, .retAddr 0, .retAddr 0, .retAddr 0], [.int a2, .ref a0], μ)) rfl ?_
    obtain ⟨h3, hr⟩ := mIf hr
    obtain ⟨q4, h5, hr⟩ := mBi hr
    refine gCall (z := 150) (n := 1) (f := 0) (kind := 1) (a := a0) (As := [.int a2]) (y := 198) (is := List.drop 8 mC198) (L := [.ref a0, .int a1, .int a2, .int a3, .retAddr 0, .retAddr 0, .retAddr 0, .retAddr 0]) (rest := []) (μ := μ) rfl (by decide) (by decide) ⟨rfl, rfl⟩ rfl h3 (Nat.le_of_ble_eq_true rfl) (Nat.le_of_ble_eq_true rfl) (t150 h5) ?_
    rcases mIte hr with ⟨h75, hr⟩ | ⟨h75, hr⟩
    · refine gBrT (p := q4 = 0) (y := 198) (is := List.drop 9 mC198) (L := [.ref a0, .int a1, .int a2, .int a3, .retAddr 0, .retAddr 0, .retAddr 0, .retAddr 0]) (st := []) (μ := μ) (t := 27) rfl h75 ?_
      exact t198_14 a0 a1 a2 a3 μ (.ref a0) rfl (.int a1) rfl (.int a2) rfl (.int a3) rfl (.retAddr 0) rfl (.retAddr 0) rfl (.retAddr 0) rfl (.retAddr 0) rfl hr hC
    · refine gBrF (p := q4 = 0) (y := 198) (is := List.drop 9 mC198) (L := [.ref a0, .int a1, .int a2, .int a3, .retAddr 0, .retAddr 0, .retAddr 0, .retAddr 0]) (st := []) (μ := μ) (t := 27) rfl h75 ?_
      refine mGo.steps 3 (c' := (198, List.drop 12 mC198, [.ref a0, .int a1, .int a2, .int a3, .retAddr 0, .retAddr 0, .retAddr 0, .retAddr 0], [.int 12, .int 1, .int a3], μ)) rfl ?_
      obtain ⟨q6, h7, hr⟩ := mBi hr
      refine mGo.call (z := 144) (as := [.int a3, .int 1, .int 12]) (y := 198) (is := List.drop 13 mC198) (L := [.ref a0, .int a1, .int a2, .int a3, .retAddr 0, .retAddr 0, .retAddr 0, .retAddr 0]) (st := []) (μ := μ) rfl (t144 h7) ?_
      rcases mIte hr with ⟨h74, hr⟩ | ⟨h74, hr⟩
      · refine gBrT (p := ¬ q6 = 0) (y := 198) (is := List.drop 14 mC198) (L := [.ref a0, .int a1, .int a2, .int a3, .retAddr 0, .retAddr 0, .retAddr 0, .retAddr 0]) (st := []) (μ := μ) (t := 29) rfl h74 ?_
        refine mGo.steps 3 (c' := (198, List.drop 19 mC198, [.ref a0, .int a1, .int a2, .int a3, .retAddr 0, .retAddr 0, .retAddr 0, .retAddr 0], [.int 1, .int a2, .ref a0], μ)) rfl ?_
        obtain ⟨q8, h9, hr⟩ := mBi hr
        refine gCall (z := 148) (n := 2) (f := 0) (kind := 1) (a := a0) (As := [.int a2, .int 1]) (y := 198) (is := List.drop 20 mC198) (L := [.ref a0, .int a1, .int a2, .int a3, .retAddr 0, .retAddr 0, .retAddr 0, .retAddr 0]) (rest := []) (μ := μ) rfl (by decide) (by decide) ⟨rfl, rfl⟩ rfl h3 (Nat.le_of_ble_eq_true rfl) (Nat.le_of_ble_eq_true rfl) (t148 h9) ?_
        refine mGo.steps 3 (c' := (198, List.drop 23 mC198, [.ref a0, .int a1, .int a2, .int a3, .retAddr 0, .retAddr 0, .retAddr 0, .retAddr 0], [.int (a1 + 1), .int q8], μ)) rfl ?_
        rcases mIte hr with ⟨h73, hr⟩ | ⟨h73, hr⟩
        · refine gBrT (p := q8 = (a1 + 1)) (y := 198) (is := List.drop 24 mC198) (L := [.ref a0, .int a1, .int a2, .int a3, .retAddr 0, .retAddr 0, .retAddr 0, .retAddr 0]) (st := []) (μ := μ) (t := 44) rfl h73 ?_
          refine mGo.steps 2 (c' := (198, List.drop 28 mC198, [.ref a0, .int a1, .int a2, .int a3, .retAddr 0, .retAddr 0, .retAddr 0, .retAddr 0], [.int a1, .ref a0], μ)) rfl ?_
          obtain ⟨q10, h11, hr⟩ := mBi hr
          refine gCall (z := 196) (n := 1) (f := 0) (kind := 1) (a := a0) (As := [.int a1]) (y := 198) (is := List.drop 29 mC198) (L := [.ref a0, .int a1, .int a2, .int a3, .retAddr 0, .retAddr 0, .retAddr 0, .retAddr 0]) (rest := []) (μ := μ) rfl (by decide) (by decide) ⟨rfl, rfl⟩ rfl h3 (Nat.le_of_ble_eq_true rfl) (Nat.le_of_ble_eq_true rfl) (t196 h11) ?_
          refine mGo.steps 1 (c' := (198, List.drop 30 mC198, [.ref a0, .int a1, .int a2, .int a3, .retAddr 0, .retAddr 0, .retAddr 0, .retAddr 0], [.int a1, .int q10], μ)) rfl ?_
          rcases mIte hr with ⟨h72, hr⟩ | ⟨h72, hr⟩
          · refine gBrT (p := ¬ a1 = 0) (y := 198) (is := List.drop 31 mC198) (L := [.ref a0, .int a1, .int a2, .int a3, .retAddr 0, .retAddr 0, .retAddr 0, .retAddr 0]) (st := [.int q10]) (μ := μ) (t := 57) rfl h72 ?_
            refine mGo.steps 1 (c' := (198, List.drop 34 mC198, [.ref a0, .int a1, .int a2, .int a3, .retAddr 0, .retAddr 0, .retAddr 0, .retAddr 0], [.int 4, .int q10], μ)) rfl ?_
            exact t198_34 a0 a1 a2 a3 μ 4 q10 (.retAddr 0) rfl (.retAddr 0) rfl (.retAddr 0) rfl (.retAddr 0) rfl hr hC
          · refine gBrF (p := ¬ a1 = 0) (y := 198) (is := List.drop 31 mC198) (L := [.ref a0, .int a1, .int a2, .int a3, .retAddr 0, .retAddr 0, .retAddr 0, .retAddr 0]) (st := [.int q10]) (μ := μ) (t := 57) rfl h72 ?_
            refine mGo.steps 2 (c' := (198, List.drop 34 mC198, [.ref a0, .int a1, .int a2, .int a3, .retAddr 0, .retAddr 0, .retAddr 0, .retAddr 0], [.int 2, .int q10], μ)) rfl ?_
            exact t198_34 a0 a1 a2 a3 μ 2 q10 (.retAddr 0) rfl (.retAddr 0) rfl (.retAddr 0) rfl (.retAddr 0) rfl hr hC
        · refine gBrF (p := q8 = (a1 + 1)) (y := 198) (is := List.drop 24 mC198) (L := [.ref a0, .int a1, .int a2, .int a3, .retAddr 0, .retAddr 0, .retAddr 0, .retAddr 0]) (st := []) (μ := μ) (t := 44) rfl h73 ?_
          refine mGo.steps 1 (c' := (198, List.drop 25 mC198, [.ref a0, .int a1, .int a2, .int a3, .retAddr 0, .retAddr 0, .retAddr 0, .retAddr 0], [.int (-2)], μ)) rfl ?_
          obtain rfl := Option.some.inj hr
          rw [show r = _ from hC]
          exact gIret rfl
      · refine gBrF (p := ¬ q6 = 0) (y := 198) (is := List.drop 14 mC198) (L := [.ref a0, .int a1, .int a2, .int a3, .retAddr 0, .retAddr 0, .retAddr 0, .retAddr 0]) (st := []) (μ := μ) (t := 29) rfl h74 ?_
        exact t198_14 a0 a1 a2 a3 μ (.ref a0) rfl (.int a1) rfl (.int a2) rfl (.int a3) rfl (.retAddr 0) rfl (.retAddr 0) rfl (.retAddr 0) rfl (.retAddr 0) rfl hr hC

/-! 201: TunnelFabricModel.close(I)I -/
def s201 (μ : mM) (a0 : Nat) (a1 : Int32) : Option (Int32 × mM) :=
  if (mS μ a0).1 = 9 then (s161 μ a0 a1).bind fun q2 => if ¬ q2 = 0 then ((s172 μ a0 a1).bind fun q4 => if (mS q4.2 a0).1 = 9 then (s171 q4.2 a0).bind fun q7 => some (q4.1, q7) else none) else (some ((-1), μ)) else none
set_option maxRecDepth 20000 in
theorem t201 {μ : mM} {a0 : Nat} {a1 : Int32} {o : (Int32 × mM)} (hr : s201 μ a0 a1 = some o) : mEv mG 201 [.ref a0, .int a1] μ (some (.int o.1)) (o.2) := by
  obtain ⟨r, hC⟩ : ∃ r : Option Value × mM, r = (some (.int o.1), o.2) := ⟨_, rfl⟩
  show mGo mG (201, List.drop 0 mC201, [.ref a0, .int a1, .retAddr 0], [], μ) (some (.int o.1), o.2)
  rw [← hC]
  unfold s201 at hr
  refine mGo.steps 2 (c' := (201, List.drop 2 mC201, [.ref a0, .int a1, .retAddr 0], [.int a1, .ref a0], μ)) rfl ?_
  obtain ⟨h1, hr⟩ := mIf hr
  obtain ⟨q2, h3, hr⟩ := mBi hr
  refine gCall (z := 161) (n := 1) (f := 0) (kind := 1) (a := a0) (As := [.int a1]) (y := 201) (is := List.drop 3 mC201) (L := [.ref a0, .int a1, .retAddr 0]) (rest := []) (μ := μ) rfl (by decide) (by decide) ⟨rfl, rfl⟩ rfl h1 (Nat.le_of_ble_eq_true rfl) (Nat.le_of_ble_eq_true rfl) (t161 h3) ?_
  rcases mIte hr with ⟨h9, hr⟩ | ⟨h9, hr⟩
  · refine gBrT (p := ¬ q2 = 0) (y := 201) (is := List.drop 4 mC201) (L := [.ref a0, .int a1, .retAddr 0]) (st := []) (μ := μ) (t := 10) rfl h9 ?_
    refine mGo.steps 2 (c' := (201, List.drop 8 mC201, [.ref a0, .int a1, .retAddr 0], [.int a1, .ref a0], μ)) rfl ?_
    obtain ⟨q4, h5, hr⟩ := mBi hr
    refine gCall (z := 172) (n := 1) (f := 0) (kind := 1) (a := a0) (As := [.int a1]) (y := 201) (is := List.drop 9 mC201) (L := [.ref a0, .int a1, .retAddr 0]) (rest := []) (μ := μ) rfl (by decide) (by decide) ⟨rfl, rfl⟩ rfl h1 (Nat.le_of_ble_eq_true rfl) (Nat.le_of_ble_eq_true rfl) (t172 h5) ?_
    refine mGo.steps 2 (c' := (201, List.drop 11 mC201, [.ref a0, .int a1, .int q4.1], [.ref a0], q4.2)) rfl ?_
    obtain ⟨h6, hr⟩ := mIf hr
    obtain ⟨q7, h8, hr⟩ := mBi hr
    refine gCall (z := 171) (n := 0) (f := 0) (kind := 1) (a := a0) (As := []) (y := 201) (is := List.drop 12 mC201) (L := [.ref a0, .int a1, .int q4.1]) (rest := []) (μ := q4.2) rfl (by decide) (by decide) ⟨rfl, rfl⟩ rfl h6 (Nat.le_of_ble_eq_true rfl) (Nat.le_of_ble_eq_true rfl) (t171 h8) ?_
    refine mGo.steps 1 (c' := (201, List.drop 13 mC201, [.ref a0, .int a1, .int q4.1], [.int q4.1], q7)) rfl ?_
    obtain rfl := Option.some.inj hr
    rw [show r = _ from hC]
    exact gIret rfl
  · refine gBrF (p := ¬ q2 = 0) (y := 201) (is := List.drop 4 mC201) (L := [.ref a0, .int a1, .retAddr 0]) (st := []) (μ := μ) (t := 10) rfl h9 ?_
    refine mGo.steps 1 (c' := (201, List.drop 5 mC201, [.ref a0, .int a1, .retAddr 0], [.int (-1)], μ)) rfl ?_
    obtain rfl := Option.some.inj hr
    rw [show r = _ from hC]
    exact gIret rfl

/-! 202: TunnelFabricModel.claim(II)I -/
def s202_9 (a0 : Nat) (a1 : Int32) (a2 : Int32) (μ : mM) : Option (Int32 × mM) :=
  some ((-1), μ)
set_option maxRecDepth 20000 in
theorem t202_9 (a0 : Nat) (a1 : Int32) (a2 : Int32) (μ : mM) (w0 : Value) (hw0 : mNotL w0 = true) (w1 : Value) (hw1 : mNotL w1 = true) (w2 : Value) (hw2 : mNotL w2 = true) {o : (Int32 × mM)} {r : Option Value × mM} (hr : s202_9 a0 a1 a2 μ = some o) (hC : r = (some (.int o.1), o.2)) : mGo mG (202, List.drop 9 mC202, [w0, w1, w2], [], μ) r := by
  unfold s202_9 at hr
  refine mGo.steps 1 (c' := (202, List.drop 10 mC202, [w0, w1, w2], [.int (-1)], μ)) rfl ?_
  obtain rfl := Option.some.inj hr
  rw [show r = _ from hC]
  exact gIret rfl
def s202 (μ : mM) (a0 : Nat) (a1 : Int32) (a2 : Int32) : Option (Int32 × mM) :=
  if (mS μ a0).1 = 9 then (s161 μ a0 a1).bind fun q2 => if q2 = 0 then (s202_9 a0 a1 a2 μ) else ((s144 μ a2 1 12).bind fun q4 => if ¬ q4 = 0 then ((s159 μ a0 a1 1).bind fun q6 => if q6 ≤ 0 then ((s160 μ a0 a1 3 a2).bind fun q8 => if (mS q8 a0).1 = 9 then (s159 q8 a0 a1 4).bind fun q11 => (s145 q8 q11 a2).bind fun q13 => (s160 q8 a0 a1 4 q13).bind fun q15 => if (mS q15 a0).1 = 9 then (s171 q15 a0).bind fun q18 => if (mS q18 a0).1 = 9 then (s159 q18 a0 a1 4).bind fun q21 => some (q21, q18) else none else none else none) else (some ((-2), μ))) else (s202_9 a0 a1 a2 μ)) else none
set_option maxRecDepth 20000 in
theorem t202 {μ : mM} {a0 : Nat} {a1 : Int32} {a2 : Int32} {o : (Int32 × mM)} (hr : s202 μ a0 a1 a2 = some o) : mEv mG 202 [.ref a0, .int a1, .int a2] μ (some (.int o.1)) (o.2) := by
  obtain ⟨r, hC⟩ : ∃ r : Option Value × mM, r = (some (.int o.1), o.2) := ⟨_, rfl⟩
  show mGo mG (202, List.drop 0 mC202, [.ref a0, .int a1, .int a2], [], μ) (some (.int o.1), o.2)
  rw [← hC]
  unfold s202 at hr
  refine mGo.steps 2 (c' := (202, List.drop 2 mC202, [.ref a0, .int a1, .int a2], [.int a1, .ref a0], μ)) rfl ?_
  obtain ⟨h1, hr⟩ := mIf hr
  obtain ⟨q2, h3, hr⟩ := mBi hr
  refine gCall (z := 161) (n := 1) (f := 0) (kind := 1) (a := a0) (As := [.int a1]) (y := 202) (is := List.drop 3 mC202) (L := [.ref a0, .int a1, .int a2]) (rest := []) (μ := μ) rfl (by decide) (by decide) ⟨rfl, rfl⟩ rfl h1 (Nat.le_of_ble_eq_true rfl) (Nat.le_of_ble_eq_true rfl) (t161 h3) ?_
  rcases mIte hr with ⟨h25, hr⟩ | ⟨h25, hr⟩
  · refine gBrT (p := q2 = 0) (y := 202) (is := List.drop 4 mC202) (L := [.ref a0, .int a1, .int a2]) (st := []) (μ := μ) (t := 18) rfl h25 ?_
    exact t202_9 a0 a1 a2 μ (.ref a0) rfl (.int a1) rfl (.int a2) rfl hr hC
  · refine gBrF (p := q2 = 0) (y := 202) (is := List.drop 4 mC202) (L := [.ref a0, .int a1, .int a2]) (st := []) (μ := μ) (t := 18) rfl h25 ?_
    refine mGo.steps 3 (c' := (202, List.drop 7 mC202, [.ref a0, .int a1, .int a2], [.int 12, .int 1, .int a2], μ)) rfl ?_
    obtain ⟨q4, h5, hr⟩ := mBi hr
    refine mGo.call (z := 144) (as := [.int a2, .int 1, .int 12]) (y := 202) (is := List.drop 8 mC202) (L := [.ref a0, .int a1, .int a2]) (st := []) (μ := μ) rfl (t144 h5) ?_
    rcases mIte hr with ⟨h24, hr⟩ | ⟨h24, hr⟩
    · refine gBrT (p := ¬ q4 = 0) (y := 202) (is := List.drop 9 mC202) (L := [.ref a0, .int a1, .int a2]) (st := []) (μ := μ) (t := 20) rfl h24 ?_
      refine mGo.steps 3 (c' := (202, List.drop 14 mC202, [.ref a0, .int a1, .int a2], [.int 1, .int a1, .ref a0], μ)) rfl ?_
      obtain ⟨q6, h7, hr⟩ := mBi hr
      refine gCall (z := 159) (n := 2) (f := 0) (kind := 1) (a := a0) (As := [.int a1, .int 1]) (y := 202) (is := List.drop 15 mC202) (L := [.ref a0, .int a1, .int a2]) (rest := []) (μ := μ) rfl (by decide) (by decide) ⟨rfl, rfl⟩ rfl h1 (Nat.le_of_ble_eq_true rfl) (Nat.le_of_ble_eq_true rfl) (t159 h7) ?_
      rcases mIte hr with ⟨h23, hr⟩ | ⟨h23, hr⟩
      · refine gBrT (p := q6 ≤ 0) (y := 202) (is := List.drop 16 mC202) (L := [.ref a0, .int a1, .int a2]) (st := []) (μ := μ) (t := 32) rfl h23 ?_
        refine mGo.steps 4 (c' := (202, List.drop 22 mC202, [.ref a0, .int a1, .int a2], [.int a2, .int 3, .int a1, .ref a0], μ)) rfl ?_
        obtain ⟨q8, h9, hr⟩ := mBi hr
        refine gCall (z := 160) (n := 3) (f := 0) (kind := 1) (a := a0) (As := [.int a1, .int 3, .int a2]) (y := 202) (is := List.drop 23 mC202) (L := [.ref a0, .int a1, .int a2]) (rest := []) (μ := μ) rfl (by decide) (by decide) ⟨rfl, rfl⟩ rfl h1 (Nat.le_of_ble_eq_true rfl) (Nat.le_of_ble_eq_true rfl) (t160 h9) ?_
        refine mGo.steps 6 (c' := (202, List.drop 29 mC202, [.ref a0, .int a1, .int a2], [.int 4, .int a1, .ref a0, .int 4, .int a1, .ref a0], q8)) rfl ?_
        obtain ⟨h10, hr⟩ := mIf hr
        obtain ⟨q11, h12, hr⟩ := mBi hr
        refine gCall (z := 159) (n := 2) (f := 0) (kind := 1) (a := a0) (As := [.int a1, .int 4]) (y := 202) (is := List.drop 30 mC202) (L := [.ref a0, .int a1, .int a2]) (rest := [.int 4, .int a1, .ref a0]) (μ := q8) rfl (by decide) (by decide) ⟨rfl, rfl⟩ rfl h10 (Nat.le_of_ble_eq_true rfl) (Nat.le_of_ble_eq_true rfl) (t159 h12) ?_
        refine mGo.steps 1 (c' := (202, List.drop 31 mC202, [.ref a0, .int a1, .int a2], [.int a2, .int q11, .int 4, .int a1, .ref a0], q8)) rfl ?_
        obtain ⟨q13, h14, hr⟩ := mBi hr
        refine mGo.call (z := 145) (as := [.int q11, .int a2]) (y := 202) (is := List.drop 32 mC202) (L := [.ref a0, .int a1, .int a2]) (st := [.int 4, .int a1, .ref a0]) (μ := q8) rfl (t145 h14) ?_
        obtain ⟨q15, h16, hr⟩ := mBi hr
        refine gCall (z := 160) (n := 3) (f := 0) (kind := 1) (a := a0) (As := [.int a1, .int 4, .int q13]) (y := 202) (is := List.drop 33 mC202) (L := [.ref a0, .int a1, .int a2]) (rest := []) (μ := q8) rfl (by decide) (by decide) ⟨rfl, rfl⟩ rfl h10 (Nat.le_of_ble_eq_true rfl) (Nat.le_of_ble_eq_true rfl) (t160 h16) ?_
        refine mGo.steps 1 (c' := (202, List.drop 34 mC202, [.ref a0, .int a1, .int a2], [.ref a0], q15)) rfl ?_
        obtain ⟨h17, hr⟩ := mIf hr
        obtain ⟨q18, h19, hr⟩ := mBi hr
        refine gCall (z := 171) (n := 0) (f := 0) (kind := 1) (a := a0) (As := []) (y := 202) (is := List.drop 35 mC202) (L := [.ref a0, .int a1, .int a2]) (rest := []) (μ := q15) rfl (by decide) (by decide) ⟨rfl, rfl⟩ rfl h17 (Nat.le_of_ble_eq_true rfl) (Nat.le_of_ble_eq_true rfl) (t171 h19) ?_
        refine mGo.steps 3 (c' := (202, List.drop 38 mC202, [.ref a0, .int a1, .int a2], [.int 4, .int a1, .ref a0], q18)) rfl ?_
        obtain ⟨h20, hr⟩ := mIf hr
        obtain ⟨q21, h22, hr⟩ := mBi hr
        refine gCall (z := 159) (n := 2) (f := 0) (kind := 1) (a := a0) (As := [.int a1, .int 4]) (y := 202) (is := List.drop 39 mC202) (L := [.ref a0, .int a1, .int a2]) (rest := []) (μ := q18) rfl (by decide) (by decide) ⟨rfl, rfl⟩ rfl h20 (Nat.le_of_ble_eq_true rfl) (Nat.le_of_ble_eq_true rfl) (t159 h22) ?_
        obtain rfl := Option.some.inj hr
        rw [show r = _ from hC]
        exact gIret rfl
      · refine gBrF (p := q6 ≤ 0) (y := 202) (is := List.drop 16 mC202) (L := [.ref a0, .int a1, .int a2]) (st := []) (μ := μ) (t := 32) rfl h23 ?_
        refine mGo.steps 1 (c' := (202, List.drop 17 mC202, [.ref a0, .int a1, .int a2], [.int (-2)], μ)) rfl ?_
        obtain rfl := Option.some.inj hr
        rw [show r = _ from hC]
        exact gIret rfl
    · refine gBrF (p := ¬ q4 = 0) (y := 202) (is := List.drop 9 mC202) (L := [.ref a0, .int a1, .int a2]) (st := []) (μ := μ) (t := 20) rfl h24 ?_
      exact t202_9 a0 a1 a2 μ (.ref a0) rfl (.int a1) rfl (.int a2) rfl hr hC

/-! 203: TunnelFabricModel.hasWay(II)Z -/
def s203_10 (μ : mM) (a0 : Nat) (a1 : Int32) (a2 : Int32) (t0 : Int32) : Option Int32 :=
  if t0 = 0 ∨ t0 = 1 then some t0 else none
set_option maxRecDepth 20000 in
theorem t203_10 (μ : mM) (a0 : Nat) (a1 : Int32) (a2 : Int32) (t0 : Int32) (w0 : Value) (hw0 : mNotL w0 = true) (w1 : Value) (hw1 : mNotL w1 = true) (w2 : Value) (hw2 : mNotL w2 = true) {o : Int32} {r : Option Value × mM} (hr : s203_10 μ a0 a1 a2 t0 = some o) (hC : r = (some (.int o), μ)) : mGo mG (203, List.drop 10 mC203, [w0, w1, w2], [.int t0], μ) r := by
  unfold s203_10 at hr
  obtain ⟨h1, hr⟩ := mIf hr
  obtain rfl := Option.some.inj hr
  rw [show r = _ from hC]
  exact gZret rfl h1
def s203_7 (μ : mM) (a0 : Nat) (a1 : Int32) (a2 : Int32) : Option Int32 :=
  s203_10 μ a0 a1 a2 1
set_option maxRecDepth 20000 in
theorem t203_7 (μ : mM) (a0 : Nat) (a1 : Int32) (a2 : Int32) (w0 : Value) (hw0 : mNotL w0 = true) (w1 : Value) (hw1 : mNotL w1 = true) (w2 : Value) (hw2 : mNotL w2 = true) {o : Int32} {r : Option Value × mM} (hr : s203_7 μ a0 a1 a2 = some o) (hC : r = (some (.int o), μ)) : mGo mG (203, List.drop 7 mC203, [w0, w1, w2], [], μ) r := by
  unfold s203_7 at hr
  refine mGo.steps 2 (c' := (203, List.drop 10 mC203, [w0, w1, w2], [.int 1], μ)) rfl ?_
  exact t203_10 μ a0 a1 a2 1 w0 hw0 w1 hw1 w2 hw2 hr hC
def s203 (μ : mM) (a0 : Nat) (a1 : Int32) (a2 : Int32) : Option Int32 :=
  if a2 = 0 then (s203_7 μ a0 a1 a2) else (if (mS μ a0).1 = 9 then (s159 μ a0 a1 1).bind fun q3 => if q3 ≤ 0 then (s203_10 μ a0 a1 a2 0) else (s203_7 μ a0 a1 a2) else none)
set_option maxRecDepth 20000 in
theorem t203 {μ : mM} {a0 : Nat} {a1 : Int32} {a2 : Int32} {o : Int32} (hr : s203 μ a0 a1 a2 = some o) : mEv mG 203 [.ref a0, .int a1, .int a2] μ (some (.int o)) (μ) := by
  obtain ⟨r, hC⟩ : ∃ r : Option Value × mM, r = (some (.int o), μ) := ⟨_, rfl⟩
  show mGo mG (203, List.drop 0 mC203, [.ref a0, .int a1, .int a2], [], μ) (some (.int o), μ)
  rw [← hC]
  unfold s203 at hr
  refine mGo.steps 1 (c' := (203, List.drop 1 mC203, [.ref a0, .int a1, .int a2], [.int a2], μ)) rfl ?_
  rcases mIte hr with ⟨h6, hr⟩ | ⟨h6, hr⟩
  · refine gBrT (p := a2 = 0) (y := 203) (is := List.drop 2 mC203) (L := [.ref a0, .int a1, .int a2]) (st := []) (μ := μ) (t := 13) rfl h6 ?_
    exact t203_7 μ a0 a1 a2 (.ref a0) rfl (.int a1) rfl (.int a2) rfl hr hC
  · refine gBrF (p := a2 = 0) (y := 203) (is := List.drop 2 mC203) (L := [.ref a0, .int a1, .int a2]) (st := []) (μ := μ) (t := 13) rfl h6 ?_
    refine mGo.steps 3 (c' := (203, List.drop 5 mC203, [.ref a0, .int a1, .int a2], [.int 1, .int a1, .ref a0], μ)) rfl ?_
    obtain ⟨h2, hr⟩ := mIf hr
    obtain ⟨q3, h4, hr⟩ := mBi hr
    refine gCall (z := 159) (n := 2) (f := 0) (kind := 1) (a := a0) (As := [.int a1, .int 1]) (y := 203) (is := List.drop 6 mC203) (L := [.ref a0, .int a1, .int a2]) (rest := []) (μ := μ) rfl (by decide) (by decide) ⟨rfl, rfl⟩ rfl h2 (Nat.le_of_ble_eq_true rfl) (Nat.le_of_ble_eq_true rfl) (t159 h4) ?_
    rcases mIte hr with ⟨h5, hr⟩ | ⟨h5, hr⟩
    · refine gBrT (p := q3 ≤ 0) (y := 203) (is := List.drop 7 mC203) (L := [.ref a0, .int a1, .int a2]) (st := []) (μ := μ) (t := 17) rfl h5 ?_
      refine mGo.steps 1 (c' := (203, List.drop 10 mC203, [.ref a0, .int a1, .int a2], [.int 0], μ)) rfl ?_
      exact t203_10 μ a0 a1 a2 0 (.ref a0) rfl (.int a1) rfl (.int a2) rfl hr hC
    · refine gBrF (p := q3 ≤ 0) (y := 203) (is := List.drop 7 mC203) (L := [.ref a0, .int a1, .int a2]) (st := []) (μ := μ) (t := 17) rfl h5 ?_
      exact t203_7 μ a0 a1 a2 (.ref a0) rfl (.int a1) rfl (.int a2) rfl hr hC

/-! 204: TunnelFabricModel.offer(III)I -/
def s204_14 (a0 : Nat) (a1 : Int32) (a2 : Int32) (a3 : Int32) (μ : mM) : Option (Int32 × mM) :=
  some ((-1), μ)
set_option maxRecDepth 20000 in
theorem t204_14 (a0 : Nat) (a1 : Int32) (a2 : Int32) (a3 : Int32) (μ : mM) (w0 : Value) (hw0 : mNotL w0 = true) (w1 : Value) (hw1 : mNotL w1 = true) (w2 : Value) (hw2 : mNotL w2 = true) (w3 : Value) (hw3 : mNotL w3 = true) (w4 : Value) (hw4 : mNotL w4 = true) {o : (Int32 × mM)} {r : Option Value × mM} (hr : s204_14 a0 a1 a2 a3 μ = some o) (hC : r = (some (.int o.1), o.2)) : mGo mG (204, List.drop 14 mC204, [w0, w1, w2, w3, w4], [], μ) r := by
  unfold s204_14 at hr
  refine mGo.steps 1 (c' := (204, List.drop 15 mC204, [w0, w1, w2, w3, w4], [.int (-1)], μ)) rfl ?_
  obtain rfl := Option.some.inj hr
  rw [show r = _ from hC]
  exact gIret rfl
def s204 (μ : mM) (a0 : Nat) (a1 : Int32) (a2 : Int32) (a3 : Int32) : Option (Int32 × mM) :=
  if (mS μ a0).1 = 9 then (s161 μ a0 a1).bind fun q2 => if q2 = 0 then (s204_14 a0 a1 a2 a3 μ) else ((s144 μ a2 0 1).bind fun q4 => if q4 = 0 then (s204_14 a0 a1 a2 a3 μ) else ((s144 μ a3 1 99).bind fun q6 => if ¬ q6 = 0 then ((s203 μ a0 a1 a2).bind fun q8 => if ¬ q8 = 0 then (if (mS μ (mP μ a0 0)).1 = 10 ∧ mInb ((132 + (4 * a1)) + (2 * a2)) (mS μ (mP μ a0 0)).2 then if ((mI μ (mP μ a0 0) (Int32.toNatClampNeg ((132 + (4 * a1)) + (2 * a2)))) + a3) ≤ 99 then ((some (mUI μ (mP μ a0 0) (Int32.toNatClampNeg ((132 + (4 * a1)) + (2 * a2))) ((mI μ (mP μ a0 0) (Int32.toNatClampNeg ((132 + (4 * a1)) + (2 * a2)))) + a3))).bind fun μ11 => if (mS μ11 (mP μ11 a0 0)).1 = 10 ∧ mInb ((132 + (4 * a1)) + (2 * a2)) (mS μ11 (mP μ11 a0 0)).2 then some (mI μ11 (mP μ11 a0 0) (Int32.toNatClampNeg ((132 + (4 * a1)) + (2 * a2))), μ11) else none) else (some ((-5), μ)) else none) else (some ((-2), μ))) else (s204_14 a0 a1 a2 a3 μ))) else none
set_option maxRecDepth 20000 in
theorem t204 {μ : mM} {a0 : Nat} {a1 : Int32} {a2 : Int32} {a3 : Int32} {o : (Int32 × mM)} (hr : s204 μ a0 a1 a2 a3 = some o) : mEv mG 204 [.ref a0, .int a1, .int a2, .int a3] μ (some (.int o.1)) (o.2) := by
  obtain ⟨r, hC⟩ : ∃ r : Option Value × mM, r = (some (.int o.1), o.2) := ⟨_, rfl⟩
  show mGo mG (204, List.drop 0 mC204, [.ref a0, .int a1, .int a2, .int a3, .retAddr 0], [], μ) (some (.int o.1), o.2)
  rw [← hC]
  unfold s204 at hr
  refine mGo.steps 2 (c' := (204, List.drop 2 mC204, [.ref a0, .int a1, .int a2, .int a3, .retAddr 0], [.int a1, .ref a0], μ)) rfl ?_
  obtain ⟨h1, hr⟩ := mIf hr
  obtain ⟨q2, h3, hr⟩ := mBi hr
  refine gCall (z := 161) (n := 1) (f := 0) (kind := 1) (a := a0) (As := [.int a1]) (y := 204) (is := List.drop 3 mC204) (L := [.ref a0, .int a1, .int a2, .int a3, .retAddr 0]) (rest := []) (μ := μ) rfl (by decide) (by decide) ⟨rfl, rfl⟩ rfl h1 (Nat.le_of_ble_eq_true rfl) (Nat.le_of_ble_eq_true rfl) (t161 h3) ?_
  rcases mIte hr with ⟨h17, hr⟩ | ⟨h17, hr⟩
  · refine gBrT (p := q2 = 0) (y := 204) (is := List.drop 4 mC204) (L := [.ref a0, .int a1, .int a2, .int a3, .retAddr 0]) (st := []) (μ := μ) (t := 27) rfl h17 ?_
    exact t204_14 a0 a1 a2 a3 μ (.ref a0) rfl (.int a1) rfl (.int a2) rfl (.int a3) rfl (.retAddr 0) rfl hr hC
  · refine gBrF (p := q2 = 0) (y := 204) (is := List.drop 4 mC204) (L := [.ref a0, .int a1, .int a2, .int a3, .retAddr 0]) (st := []) (μ := μ) (t := 27) rfl h17 ?_
    refine mGo.steps 3 (c' := (204, List.drop 7 mC204, [.ref a0, .int a1, .int a2, .int a3, .retAddr 0], [.int 1, .int 0, .int a2], μ)) rfl ?_
    obtain ⟨q4, h5, hr⟩ := mBi hr
    refine mGo.call (z := 144) (as := [.int a2, .int 0, .int 1]) (y := 204) (is := List.drop 8 mC204) (L := [.ref a0, .int a1, .int a2, .int a3, .retAddr 0]) (st := []) (μ := μ) rfl (t144 h5) ?_
    rcases mIte hr with ⟨h16, hr⟩ | ⟨h16, hr⟩
    · refine gBrT (p := q4 = 0) (y := 204) (is := List.drop 9 mC204) (L := [.ref a0, .int a1, .int a2, .int a3, .retAddr 0]) (st := []) (μ := μ) (t := 27) rfl h16 ?_
      exact t204_14 a0 a1 a2 a3 μ (.ref a0) rfl (.int a1) rfl (.int a2) rfl (.int a3) rfl (.retAddr 0) rfl hr hC
    · refine gBrF (p := q4 = 0) (y := 204) (is := List.drop 9 mC204) (L := [.ref a0, .int a1, .int a2, .int a3, .retAddr 0]) (st := []) (μ := μ) (t := 27) rfl h16 ?_
      refine mGo.steps 3 (c' := (204, List.drop 12 mC204, [.ref a0, .int a1, .int a2, .int a3, .retAddr 0], [.int 99, .int 1, .int a3], μ)) rfl ?_
      obtain ⟨q6, h7, hr⟩ := mBi hr
      refine mGo.call (z := 144) (as := [.int a3, .int 1, .int 99]) (y := 204) (is := List.drop 13 mC204) (L := [.ref a0, .int a1, .int a2, .int a3, .retAddr 0]) (st := []) (μ := μ) rfl (t144 h7) ?_
      rcases mIte hr with ⟨h15, hr⟩ | ⟨h15, hr⟩
      · refine gBrT (p := ¬ q6 = 0) (y := 204) (is := List.drop 14 mC204) (L := [.ref a0, .int a1, .int a2, .int a3, .retAddr 0]) (st := []) (μ := μ) (t := 29) rfl h15 ?_
        refine mGo.steps 3 (c' := (204, List.drop 19 mC204, [.ref a0, .int a1, .int a2, .int a3, .retAddr 0], [.int a2, .int a1, .ref a0], μ)) rfl ?_
        obtain ⟨q8, h9, hr⟩ := mBi hr
        refine gCall (z := 203) (n := 2) (f := 0) (kind := 1) (a := a0) (As := [.int a1, .int a2]) (y := 204) (is := List.drop 20 mC204) (L := [.ref a0, .int a1, .int a2, .int a3, .retAddr 0]) (rest := []) (μ := μ) rfl (by decide) (by decide) ⟨rfl, rfl⟩ rfl h1 (Nat.le_of_ble_eq_true rfl) (Nat.le_of_ble_eq_true rfl) (t203 h9) ?_
        rcases mIte hr with ⟨h14, hr⟩ | ⟨h14, hr⟩
        · refine gBrT (p := ¬ q8 = 0) (y := 204) (is := List.drop 21 mC204) (L := [.ref a0, .int a1, .int a2, .int a3, .retAddr 0]) (st := []) (μ := μ) (t := 41) rfl h14 ?_
          refine mGo.steps 11 (c' := (204, List.drop 34 mC204, [.ref a0, .int a1, .int a2, .int a3, .int ((132 + (4 * a1)) + (2 * a2))], [.ref a0], μ)) rfl ?_
          refine gGet (is := List.drop 35 mC204) (v := .ref (mP μ a0 0)) h1 rfl ?_
          refine mGo.steps 1 (c' := (204, List.drop 36 mC204, [.ref a0, .int a1, .int a2, .int a3, .int ((132 + (4 * a1)) + (2 * a2))], [.int ((132 + (4 * a1)) + (2 * a2)), .ref (mP μ a0 0)], μ)) rfl ?_
          obtain ⟨h10, hr⟩ := mIf hr
          refine gIald (is := List.drop 37 mC204) h10 ?_
          refine mGo.steps 3 (c' := (204, List.drop 40 mC204, [.ref a0, .int a1, .int a2, .int a3, .int ((132 + (4 * a1)) + (2 * a2))], [.int 99, .int ((mI μ (mP μ a0 0) (Int32.toNatClampNeg ((132 + (4 * a1)) + (2 * a2)))) + a3)], μ)) rfl ?_
          rcases mIte hr with ⟨h13, hr⟩ | ⟨h13, hr⟩
          · refine gBrT (p := ((mI μ (mP μ a0 0) (Int32.toNatClampNeg ((132 + (4 * a1)) + (2 * a2)))) + a3) ≤ 99) (y := 204) (is := List.drop 41 mC204) (L := [.ref a0, .int a1, .int a2, .int a3, .int ((132 + (4 * a1)) + (2 * a2))]) (st := []) (μ := μ) (t := 71) rfl h13 ?_
            refine mGo.steps 1 (c' := (204, List.drop 44 mC204, [.ref a0, .int a1, .int a2, .int a3, .int ((132 + (4 * a1)) + (2 * a2))], [.ref a0], μ)) rfl ?_
            refine gGet (is := List.drop 45 mC204) (v := .ref (mP μ a0 0)) h1 rfl ?_
            refine mGo.steps 2 (c' := (204, List.drop 47 mC204, [.ref a0, .int a1, .int a2, .int a3, .int ((132 + (4 * a1)) + (2 * a2))], [.int ((132 + (4 * a1)) + (2 * a2)), .ref (mP μ a0 0), .int ((132 + (4 * a1)) + (2 * a2)), .ref (mP μ a0 0)], μ)) rfl ?_
            refine gIald (is := List.drop 48 mC204) h10 ?_
            refine mGo.steps 2 (c' := (204, List.drop 50 mC204, [.ref a0, .int a1, .int a2, .int a3, .int ((132 + (4 * a1)) + (2 * a2))], [.int ((mI μ (mP μ a0 0) (Int32.toNatClampNeg ((132 + (4 * a1)) + (2 * a2)))) + a3), .int ((132 + (4 * a1)) + (2 * a2)), .ref (mP μ a0 0)], μ)) rfl ?_
            replace hr := mBs hr
            refine gIast (is := List.drop 51 mC204) h10 ?_
            let μ11 : mM := mUI μ (mP μ a0 0) (Int32.toNatClampNeg ((132 + (4 * a1)) + (2 * a2))) ((mI μ (mP μ a0 0) (Int32.toNatClampNeg ((132 + (4 * a1)) + (2 * a2)))) + a3)
            refine mGo.steps 1 (c' := (204, List.drop 52 mC204, [.ref a0, .int a1, .int a2, .int a3, .int ((132 + (4 * a1)) + (2 * a2))], [.ref a0], μ11)) rfl ?_
            refine gGet (is := List.drop 53 mC204) (v := .ref (mP μ11 a0 0)) h1 rfl ?_
            refine mGo.steps 1 (c' := (204, List.drop 54 mC204, [.ref a0, .int a1, .int a2, .int a3, .int ((132 + (4 * a1)) + (2 * a2))], [.int ((132 + (4 * a1)) + (2 * a2)), .ref (mP μ11 a0 0)], μ11)) rfl ?_
            obtain ⟨h12, hr⟩ := mIf hr
            refine gIald (is := List.drop 55 mC204) h12 ?_
            obtain rfl := Option.some.inj hr
            rw [show r = _ from hC]
            exact gIret rfl
          · refine gBrF (p := ((mI μ (mP μ a0 0) (Int32.toNatClampNeg ((132 + (4 * a1)) + (2 * a2)))) + a3) ≤ 99) (y := 204) (is := List.drop 41 mC204) (L := [.ref a0, .int a1, .int a2, .int a3, .int ((132 + (4 * a1)) + (2 * a2))]) (st := []) (μ := μ) (t := 71) rfl h13 ?_
            refine mGo.steps 1 (c' := (204, List.drop 42 mC204, [.ref a0, .int a1, .int a2, .int a3, .int ((132 + (4 * a1)) + (2 * a2))], [.int (-5)], μ)) rfl ?_
            obtain rfl := Option.some.inj hr
            rw [show r = _ from hC]
            exact gIret rfl
        · refine gBrF (p := ¬ q8 = 0) (y := 204) (is := List.drop 21 mC204) (L := [.ref a0, .int a1, .int a2, .int a3, .retAddr 0]) (st := []) (μ := μ) (t := 41) rfl h14 ?_
          refine mGo.steps 1 (c' := (204, List.drop 22 mC204, [.ref a0, .int a1, .int a2, .int a3, .retAddr 0], [.int (-2)], μ)) rfl ?_
          obtain rfl := Option.some.inj hr
          rw [show r = _ from hC]
          exact gIret rfl
      · refine gBrF (p := ¬ q6 = 0) (y := 204) (is := List.drop 14 mC204) (L := [.ref a0, .int a1, .int a2, .int a3, .retAddr 0]) (st := []) (μ := μ) (t := 29) rfl h15 ?_
        exact t204_14 a0 a1 a2 a3 μ (.ref a0) rfl (.int a1) rfl (.int a2) rfl (.int a3) rfl (.retAddr 0) rfl hr hC

/-! 205: TunnelFabricModel.tunnel(II)I -/
def s205_9 (μ : mM) (a0 : Nat) (a1 : Int32) (a2 : Int32) : Option Int32 :=
  some (-1)
set_option maxRecDepth 20000 in
theorem t205_9 (μ : mM) (a0 : Nat) (a1 : Int32) (a2 : Int32) (w0 : Value) (hw0 : mNotL w0 = true) (w1 : Value) (hw1 : mNotL w1 = true) (w2 : Value) (hw2 : mNotL w2 = true) (w3 : Value) (hw3 : mNotL w3 = true) {o : Int32} {r : Option Value × mM} (hr : s205_9 μ a0 a1 a2 = some o) (hC : r = (some (.int o), μ)) : mGo mG (205, List.drop 9 mC205, [w0, w1, w2, w3], [], μ) r := by
  unfold s205_9 at hr
  refine mGo.steps 1 (c' := (205, List.drop 10 mC205, [w0, w1, w2, w3], [.int (-1)], μ)) rfl ?_
  obtain rfl := Option.some.inj hr
  rw [show r = _ from hC]
  exact gIret rfl
def s205_40 (μ : mM) (a0 : Nat) (a1 : Int32) (a2 : Int32) (t0 : Int32) : Option Int32 :=
  some t0
set_option maxRecDepth 20000 in
theorem t205_40 (μ : mM) (a0 : Nat) (a1 : Int32) (a2 : Int32) (t0 : Int32) (w0 : Value) (hw0 : mNotL w0 = true) (w1 : Value) (hw1 : mNotL w1 = true) (w2 : Value) (hw2 : mNotL w2 = true) (w3 : Value) (hw3 : mNotL w3 = true) {o : Int32} {r : Option Value × mM} (hr : s205_40 μ a0 a1 a2 t0 = some o) (hC : r = (some (.int o), μ)) : mGo mG (205, List.drop 40 mC205, [w0, w1, w2, w3], [.int t0], μ) r := by
  unfold s205_40 at hr
  obtain rfl := Option.some.inj hr
  rw [show r = _ from hC]
  exact gIret rfl
def s205_49 (μ : mM) (a0 : Nat) (a1 : Int32) (a2 : Int32) (t0 : Int32) : Option Int32 :=
  some t0
set_option maxRecDepth 20000 in
theorem t205_49 (μ : mM) (a0 : Nat) (a1 : Int32) (a2 : Int32) (t0 : Int32) (w0 : Value) (hw0 : mNotL w0 = true) (w1 : Value) (hw1 : mNotL w1 = true) (w2 : Value) (hw2 : mNotL w2 = true) (w3 : Value) (hw3 : mNotL w3 = true) {o : Int32} {r : Option Value × mM} (hr : s205_49 μ a0 a1 a2 t0 = some o) (hC : r = (some (.int o), μ)) : mGo mG (205, List.drop 49 mC205, [w0, w1, w2, w3], [.int t0], μ) r := by
  unfold s205_49 at hr
  obtain rfl := Option.some.inj hr
  rw [show r = _ from hC]
  exact gIret rfl
def s205_19 (μ : mM) (a0 : Nat) (a1 : Int32) (a2 : Int32) (t0 : Int32) : Option Int32 :=
  if a2 = 0 then (if (mS μ a0).1 = 9 then (s159 μ a0 a1 1).bind fun q9 => some q9 else none) else (if a2 = 1 then (if (mS μ a0).1 = 9 then (s159 μ a0 a1 2).bind fun q13 => some q13 else none) else (if a2 = 2 then (if t0 = 0 then (s205_40 μ a0 a1 a2 (-10)) else (if (mS μ a0).1 = 9 then (s159 μ a0 a1 3).bind fun q17 => s205_40 μ a0 a1 a2 q17 else none)) else (if a2 = 3 then (if t0 = 0 then (s205_49 μ a0 a1 a2 (-10)) else (if (mS μ a0).1 = 9 then (s159 μ a0 a1 4).bind fun q22 => s205_49 μ a0 a1 a2 q22 else none)) else (if a2 = 4 then (if (mS μ a0).1 = 9 then (s159 μ a0 a1 2).bind fun q27 => (s152 μ a0 q27).bind fun q29 => some q29 else none) else (if (mS μ a0).1 = 9 then (s159 μ a0 a1 5).bind fun q33 => some q33 else none)))))
set_option maxRecDepth 20000 in
theorem t205_19 (μ : mM) (a0 : Nat) (a1 : Int32) (a2 : Int32) (t0 : Int32) (w3 : Value) (hw3 : mNotL w3 = true) {o : Int32} {r : Option Value × mM} (hr : s205_19 μ a0 a1 a2 t0 = some o) (hC : r = (some (.int o), μ)) : mGo mG (205, List.drop 19 mC205, [.ref a0, .int a1, .int a2, w3], [.int t0], μ) r := by
  unfold s205_19 at hr
  refine mGo.steps 2 (c' := (205, List.drop 21 mC205, [.ref a0, .int a1, .int a2, .int t0], [.int a2], μ)) rfl ?_
  refine mGo.steps 1 (c' := (205, mSeek (mTs a2 0 [68, 75, 82, 98, 114] 125) (rC (mG 205)), [.ref a0, .int a1, .int a2, .int t0], [], μ)) rfl ?_
  rcases mIte hr with ⟨h11, hr⟩ | ⟨h11, hr⟩
  · refine gTs1 (w := 0) h11 rfl ?_
    refine mGo.steps 3 (c' := (205, List.drop 25 mC205, [.ref a0, .int a1, .int a2, .int t0], [.int 1, .int a1, .ref a0], μ)) rfl ?_
    obtain ⟨h8, hr⟩ := mIf hr
    obtain ⟨q9, h10, hr⟩ := mBi hr
    refine gCall (z := 159) (n := 2) (f := 0) (kind := 1) (a := a0) (As := [.int a1, .int 1]) (y := 205) (is := List.drop 26 mC205) (L := [.ref a0, .int a1, .int a2, .int t0]) (rest := []) (μ := μ) rfl (by decide) (by decide) ⟨rfl, rfl⟩ rfl h8 (Nat.le_of_ble_eq_true rfl) (Nat.le_of_ble_eq_true rfl) (t159 h10) ?_
    obtain rfl := Option.some.inj hr
    rw [show r = _ from hC]
    exact gIret rfl
  · refine gTs0 (w := 0) h11 rfl ?_
    rcases mIte hr with ⟨h15, hr⟩ | ⟨h15, hr⟩
    · refine gTs1 (w := 1) h15 rfl ?_
      refine mGo.steps 3 (c' := (205, List.drop 30 mC205, [.ref a0, .int a1, .int a2, .int t0], [.int 2, .int a1, .ref a0], μ)) rfl ?_
      obtain ⟨h12, hr⟩ := mIf hr
      obtain ⟨q13, h14, hr⟩ := mBi hr
      refine gCall (z := 159) (n := 2) (f := 0) (kind := 1) (a := a0) (As := [.int a1, .int 2]) (y := 205) (is := List.drop 31 mC205) (L := [.ref a0, .int a1, .int a2, .int t0]) (rest := []) (μ := μ) rfl (by decide) (by decide) ⟨rfl, rfl⟩ rfl h12 (Nat.le_of_ble_eq_true rfl) (Nat.le_of_ble_eq_true rfl) (t159 h14) ?_
      obtain rfl := Option.some.inj hr
      rw [show r = _ from hC]
      exact gIret rfl
    · refine gTs0 (w := 1) h15 rfl ?_
      rcases mIte hr with ⟨h20, hr⟩ | ⟨h20, hr⟩
      · refine gTs1 (w := 2) h20 rfl ?_
        refine mGo.steps 1 (c' := (205, List.drop 33 mC205, [.ref a0, .int a1, .int a2, .int t0], [.int t0], μ)) rfl ?_
        rcases mIte hr with ⟨h19, hr⟩ | ⟨h19, hr⟩
        · refine gBrT (p := t0 = 0) (y := 205) (is := List.drop 34 mC205) (L := [.ref a0, .int a1, .int a2, .int t0]) (st := []) (μ := μ) (t := 95) rfl h19 ?_
          refine mGo.steps 1 (c' := (205, List.drop 40 mC205, [.ref a0, .int a1, .int a2, .int t0], [.int (-10)], μ)) rfl ?_
          exact t205_40 μ a0 a1 a2 (-10) (.ref a0) rfl (.int a1) rfl (.int a2) rfl (.int t0) rfl hr hC
        · refine gBrF (p := t0 = 0) (y := 205) (is := List.drop 34 mC205) (L := [.ref a0, .int a1, .int a2, .int t0]) (st := []) (μ := μ) (t := 95) rfl h19 ?_
          refine mGo.steps 3 (c' := (205, List.drop 37 mC205, [.ref a0, .int a1, .int a2, .int t0], [.int 3, .int a1, .ref a0], μ)) rfl ?_
          obtain ⟨h16, hr⟩ := mIf hr
          obtain ⟨q17, h18, hr⟩ := mBi hr
          refine gCall (z := 159) (n := 2) (f := 0) (kind := 1) (a := a0) (As := [.int a1, .int 3]) (y := 205) (is := List.drop 38 mC205) (L := [.ref a0, .int a1, .int a2, .int t0]) (rest := []) (μ := μ) rfl (by decide) (by decide) ⟨rfl, rfl⟩ rfl h16 (Nat.le_of_ble_eq_true rfl) (Nat.le_of_ble_eq_true rfl) (t159 h18) ?_
          refine mGo.steps 1 (c' := (205, List.drop 40 mC205, [.ref a0, .int a1, .int a2, .int t0], [.int q17], μ)) rfl ?_
          exact t205_40 μ a0 a1 a2 q17 (.ref a0) rfl (.int a1) rfl (.int a2) rfl (.int t0) rfl hr hC
      · refine gTs0 (w := 2) h20 rfl ?_
        rcases mIte hr with ⟨h25, hr⟩ | ⟨h25, hr⟩
        · refine gTs1 (w := 3) h25 rfl ?_
          refine mGo.steps 1 (c' := (205, List.drop 42 mC205, [.ref a0, .int a1, .int a2, .int t0], [.int t0], μ)) rfl ?_
          rcases mIte hr with ⟨h24, hr⟩ | ⟨h24, hr⟩
          · refine gBrT (p := t0 = 0) (y := 205) (is := List.drop 43 mC205) (L := [.ref a0, .int a1, .int a2, .int t0]) (st := []) (μ := μ) (t := 111) rfl h24 ?_
            refine mGo.steps 1 (c' := (205, List.drop 49 mC205, [.ref a0, .int a1, .int a2, .int t0], [.int (-10)], μ)) rfl ?_
            exact t205_49 μ a0 a1 a2 (-10) (.ref a0) rfl (.int a1) rfl (.int a2) rfl (.int t0) rfl hr hC
          · refine gBrF (p := t0 = 0) (y := 205) (is := List.drop 43 mC205) (L := [.ref a0, .int a1, .int a2, .int t0]) (st := []) (μ := μ) (t := 111) rfl h24 ?_
            refine mGo.steps 3 (c' := (205, List.drop 46 mC205, [.ref a0, .int a1, .int a2, .int t0], [.int 4, .int a1, .ref a0], μ)) rfl ?_
            obtain ⟨h21, hr⟩ := mIf hr
            obtain ⟨q22, h23, hr⟩ := mBi hr
            refine gCall (z := 159) (n := 2) (f := 0) (kind := 1) (a := a0) (As := [.int a1, .int 4]) (y := 205) (is := List.drop 47 mC205) (L := [.ref a0, .int a1, .int a2, .int t0]) (rest := []) (μ := μ) rfl (by decide) (by decide) ⟨rfl, rfl⟩ rfl h21 (Nat.le_of_ble_eq_true rfl) (Nat.le_of_ble_eq_true rfl) (t159 h23) ?_
            refine mGo.steps 1 (c' := (205, List.drop 49 mC205, [.ref a0, .int a1, .int a2, .int t0], [.int q22], μ)) rfl ?_
            exact t205_49 μ a0 a1 a2 q22 (.ref a0) rfl (.int a1) rfl (.int a2) rfl (.int t0) rfl hr hC
        · refine gTs0 (w := 3) h25 rfl ?_
          rcases mIte hr with ⟨h31, hr⟩ | ⟨h31, hr⟩
          · refine gTs1 (w := 4) h31 rfl ?_
            refine mGo.steps 4 (c' := (205, List.drop 54 mC205, [.ref a0, .int a1, .int a2, .int t0], [.int 2, .int a1, .ref a0, .ref a0], μ)) rfl ?_
            obtain ⟨h26, hr⟩ := mIf hr
            obtain ⟨q27, h28, hr⟩ := mBi hr
            refine gCall (z := 159) (n := 2) (f := 0) (kind := 1) (a := a0) (As := [.int a1, .int 2]) (y := 205) (is := List.drop 55 mC205) (L := [.ref a0, .int a1, .int a2, .int t0]) (rest := [.ref a0]) (μ := μ) rfl (by decide) (by decide) ⟨rfl, rfl⟩ rfl h26 (Nat.le_of_ble_eq_true rfl) (Nat.le_of_ble_eq_true rfl) (t159 h28) ?_
            obtain ⟨q29, h30, hr⟩ := mBi hr
            refine gCall (z := 152) (n := 1) (f := 0) (kind := 1) (a := a0) (As := [.int q27]) (y := 205) (is := List.drop 56 mC205) (L := [.ref a0, .int a1, .int a2, .int t0]) (rest := []) (μ := μ) rfl (by decide) (by decide) ⟨rfl, rfl⟩ rfl h26 (Nat.le_of_ble_eq_true rfl) (Nat.le_of_ble_eq_true rfl) (t152 h30) ?_
            obtain rfl := Option.some.inj hr
            rw [show r = _ from hC]
            exact gIret rfl
          · refine gTs0 (w := 4) h31 rfl ?_
            refine mGo.steps 3 (c' := (205, List.drop 60 mC205, [.ref a0, .int a1, .int a2, .int t0], [.int 5, .int a1, .ref a0], μ)) rfl ?_
            obtain ⟨h32, hr⟩ := mIf hr
            obtain ⟨q33, h34, hr⟩ := mBi hr
            refine gCall (z := 159) (n := 2) (f := 0) (kind := 1) (a := a0) (As := [.int a1, .int 5]) (y := 205) (is := List.drop 61 mC205) (L := [.ref a0, .int a1, .int a2, .int t0]) (rest := []) (μ := μ) rfl (by decide) (by decide) ⟨rfl, rfl⟩ rfl h32 (Nat.le_of_ble_eq_true rfl) (Nat.le_of_ble_eq_true rfl) (t159 h34) ?_
            obtain rfl := Option.some.inj hr
            rw [show r = _ from hC]
            exact gIret rfl
def s205 (μ : mM) (a0 : Nat) (a1 : Int32) (a2 : Int32) : Option Int32 :=
  if (mS μ a0).1 = 9 then (s161 μ a0 a1).bind fun q2 => if q2 = 0 then (s205_9 μ a0 a1 a2) else ((s144 μ a2 0 5).bind fun q4 => if ¬ q4 = 0 then ((s159 μ a0 a1 1).bind fun q6 => if ¬ q6 = 0 then (s205_19 μ a0 a1 a2 0) else (s205_19 μ a0 a1 a2 1)) else (s205_9 μ a0 a1 a2)) else none
set_option maxRecDepth 20000 in
theorem t205 {μ : mM} {a0 : Nat} {a1 : Int32} {a2 : Int32} {o : Int32} (hr : s205 μ a0 a1 a2 = some o) : mEv mG 205 [.ref a0, .int a1, .int a2] μ (some (.int o)) (μ) := by
  obtain ⟨r, hC⟩ : ∃ r : Option Value × mM, r = (some (.int o), μ) := ⟨_, rfl⟩
  show mGo mG (205, List.drop 0 mC205, [.ref a0, .int a1, .int a2, .retAddr 0], [], μ) (some (.int o), μ)
  rw [← hC]
  unfold s205 at hr
  refine mGo.steps 2 (c' := (205, List.drop 2 mC205, [.ref a0, .int a1, .int a2, .retAddr 0], [.int a1, .ref a0], μ)) rfl ?_
  obtain ⟨h1, hr⟩ := mIf hr
  obtain ⟨q2, h3, hr⟩ := mBi hr
  refine gCall (z := 161) (n := 1) (f := 0) (kind := 1) (a := a0) (As := [.int a1]) (y := 205) (is := List.drop 3 mC205) (L := [.ref a0, .int a1, .int a2, .retAddr 0]) (rest := []) (μ := μ) rfl (by decide) (by decide) ⟨rfl, rfl⟩ rfl h1 (Nat.le_of_ble_eq_true rfl) (Nat.le_of_ble_eq_true rfl) (t161 h3) ?_
  rcases mIte hr with ⟨h37, hr⟩ | ⟨h37, hr⟩
  · refine gBrT (p := q2 = 0) (y := 205) (is := List.drop 4 mC205) (L := [.ref a0, .int a1, .int a2, .retAddr 0]) (st := []) (μ := μ) (t := 17) rfl h37 ?_
    exact t205_9 μ a0 a1 a2 (.ref a0) rfl (.int a1) rfl (.int a2) rfl (.retAddr 0) rfl hr hC
  · refine gBrF (p := q2 = 0) (y := 205) (is := List.drop 4 mC205) (L := [.ref a0, .int a1, .int a2, .retAddr 0]) (st := []) (μ := μ) (t := 17) rfl h37 ?_
    refine mGo.steps 3 (c' := (205, List.drop 7 mC205, [.ref a0, .int a1, .int a2, .retAddr 0], [.int 5, .int 0, .int a2], μ)) rfl ?_
    obtain ⟨q4, h5, hr⟩ := mBi hr
    refine mGo.call (z := 144) (as := [.int a2, .int 0, .int 5]) (y := 205) (is := List.drop 8 mC205) (L := [.ref a0, .int a1, .int a2, .retAddr 0]) (st := []) (μ := μ) rfl (t144 h5) ?_
    rcases mIte hr with ⟨h36, hr⟩ | ⟨h36, hr⟩
    · refine gBrT (p := ¬ q4 = 0) (y := 205) (is := List.drop 9 mC205) (L := [.ref a0, .int a1, .int a2, .retAddr 0]) (st := []) (μ := μ) (t := 19) rfl h36 ?_
      refine mGo.steps 3 (c' := (205, List.drop 14 mC205, [.ref a0, .int a1, .int a2, .retAddr 0], [.int 1, .int a1, .ref a0], μ)) rfl ?_
      obtain ⟨q6, h7, hr⟩ := mBi hr
      refine gCall (z := 159) (n := 2) (f := 0) (kind := 1) (a := a0) (As := [.int a1, .int 1]) (y := 205) (is := List.drop 15 mC205) (L := [.ref a0, .int a1, .int a2, .retAddr 0]) (rest := []) (μ := μ) rfl (by decide) (by decide) ⟨rfl, rfl⟩ rfl h1 (Nat.le_of_ble_eq_true rfl) (Nat.le_of_ble_eq_true rfl) (t159 h7) ?_
      rcases mIte hr with ⟨h35, hr⟩ | ⟨h35, hr⟩
      · refine gBrT (p := ¬ q6 = 0) (y := 205) (is := List.drop 16 mC205) (L := [.ref a0, .int a1, .int a2, .retAddr 0]) (st := []) (μ := μ) (t := 32) rfl h35 ?_
        refine mGo.steps 1 (c' := (205, List.drop 19 mC205, [.ref a0, .int a1, .int a2, .retAddr 0], [.int 0], μ)) rfl ?_
        exact t205_19 μ a0 a1 a2 0 (.retAddr 0) rfl hr hC
      · refine gBrF (p := ¬ q6 = 0) (y := 205) (is := List.drop 16 mC205) (L := [.ref a0, .int a1, .int a2, .retAddr 0]) (st := []) (μ := μ) (t := 32) rfl h35 ?_
        refine mGo.steps 2 (c' := (205, List.drop 19 mC205, [.ref a0, .int a1, .int a2, .retAddr 0], [.int 1], μ)) rfl ?_
        exact t205_19 μ a0 a1 a2 1 (.retAddr 0) rfl hr hC
    · refine gBrF (p := ¬ q4 = 0) (y := 205) (is := List.drop 9 mC205) (L := [.ref a0, .int a1, .int a2, .retAddr 0]) (st := []) (μ := μ) (t := 19) rfl h36 ?_
      exact t205_9 μ a0 a1 a2 (.ref a0) rfl (.int a1) rfl (.int a2) rfl (.retAddr 0) rfl hr hC

/-! 206: TunnelFabricModel.hop(IIII)I -/
def s206_14 (μ : mM) (a0 : Nat) (a1 : Int32) (a2 : Int32) (a3 : Int32) (a4 : Int32) : Option Int32 :=
  some (-1)
set_option maxRecDepth 20000 in
theorem t206_14 (μ : mM) (a0 : Nat) (a1 : Int32) (a2 : Int32) (a3 : Int32) (a4 : Int32) (w0 : Value) (hw0 : mNotL w0 = true) (w1 : Value) (hw1 : mNotL w1 = true) (w2 : Value) (hw2 : mNotL w2 = true) (w3 : Value) (hw3 : mNotL w3 = true) (w4 : Value) (hw4 : mNotL w4 = true) (w5 : Value) (hw5 : mNotL w5 = true) {o : Int32} {r : Option Value × mM} (hr : s206_14 μ a0 a1 a2 a3 a4 = some o) (hC : r = (some (.int o), μ)) : mGo mG (206, List.drop 14 mC206, [w0, w1, w2, w3, w4, w5], [], μ) r := by
  unfold s206_14 at hr
  refine mGo.steps 1 (c' := (206, List.drop 15 mC206, [w0, w1, w2, w3, w4, w5], [.int (-1)], μ)) rfl ?_
  obtain rfl := Option.some.inj hr
  rw [show r = _ from hC]
  exact gIret rfl
def s206_35 (μ : mM) (a0 : Nat) (a1 : Int32) (a2 : Int32) (a3 : Int32) (a4 : Int32) : Option Int32 :=
  some (-10)
set_option maxRecDepth 20000 in
theorem t206_35 (μ : mM) (a0 : Nat) (a1 : Int32) (a2 : Int32) (a3 : Int32) (a4 : Int32) (w0 : Value) (hw0 : mNotL w0 = true) (w1 : Value) (hw1 : mNotL w1 = true) (w2 : Value) (hw2 : mNotL w2 = true) (w3 : Value) (hw3 : mNotL w3 = true) (w4 : Value) (hw4 : mNotL w4 = true) (w5 : Value) (hw5 : mNotL w5 = true) {o : Int32} {r : Option Value × mM} (hr : s206_35 μ a0 a1 a2 a3 a4 = some o) (hC : r = (some (.int o), μ)) : mGo mG (206, List.drop 35 mC206, [w0, w1, w2, w3, w4, w5], [], μ) r := by
  unfold s206_35 at hr
  refine mGo.steps 1 (c' := (206, List.drop 36 mC206, [w0, w1, w2, w3, w4, w5], [.int (-10)], μ)) rfl ?_
  obtain rfl := Option.some.inj hr
  rw [show r = _ from hC]
  exact gIret rfl
def s206_56 (μ : mM) (a0 : Nat) (a1 : Int32) (a2 : Int32) (a3 : Int32) (a4 : Int32) (t0 : Int32) : Option Int32 :=
  some t0
set_option maxRecDepth 20000 in
theorem t206_56 (μ : mM) (a0 : Nat) (a1 : Int32) (a2 : Int32) (a3 : Int32) (a4 : Int32) (t0 : Int32) (w0 : Value) (hw0 : mNotL w0 = true) (w1 : Value) (hw1 : mNotL w1 = true) (w2 : Value) (hw2 : mNotL w2 = true) (w3 : Value) (hw3 : mNotL w3 = true) (w4 : Value) (hw4 : mNotL w4 = true) (w5 : Value) (hw5 : mNotL w5 = true) {o : Int32} {r : Option Value × mM} (hr : s206_56 μ a0 a1 a2 a3 a4 t0 = some o) (hC : r = (some (.int o), μ)) : mGo mG (206, List.drop 56 mC206, [w0, w1, w2, w3, w4, w5], [.int t0], μ) r := by
  unfold s206_56 at hr
  obtain rfl := Option.some.inj hr
  rw [show r = _ from hC]
  exact gIret rfl
def s206 (μ : mM) (a0 : Nat) (a1 : Int32) (a2 : Int32) (a3 : Int32) (a4 : Int32) : Option Int32 :=
  if (mS μ a0).1 = 9 then (s161 μ a0 a1).bind fun q2 => if q2 = 0 then (s206_14 μ a0 a1 a2 a3 a4) else ((s144 μ a2 0 1).bind fun q4 => if q4 = 0 then (s206_14 μ a0 a1 a2 a3 a4) else ((s144 μ a4 0 3).bind fun q6 => if ¬ q6 = 0 then ((s159 μ a0 a1 2).bind fun q8 => (s203 μ a0 a1 a2).bind fun q10 => if q10 = 0 then (s206_35 μ a0 a1 a2 a3 a4) else ((s152 μ a0 q8).bind fun q12 => (s144 μ a3 0 (q12 - 1)).bind fun q14 => if ¬ q14 = 0 then (if ¬ a4 = 0 then ((s163 μ a1 a2 a3).bind fun q16 => if (mS μ (mP μ a0 0)).1 = 10 ∧ mInb ((q16 + a4) - 1) (mS μ (mP μ a0 0)).2 then s206_56 μ a0 a1 a2 a3 a4 (mI μ (mP μ a0 0) (Int32.toNatClampNeg ((q16 + a4) - 1))) else none) else ((s165 μ a0 q8 a2 a3).bind fun q19 => s206_56 μ a0 a1 a2 a3 a4 q19)) else (s206_35 μ a0 a1 a2 a3 a4))) else (s206_14 μ a0 a1 a2 a3 a4))) else none
set_option maxRecDepth 20000 in
theorem t206 {μ : mM} {a0 : Nat} {a1 : Int32} {a2 : Int32} {a3 : Int32} {a4 : Int32} {o : Int32} (hr : s206 μ a0 a1 a2 a3 a4 = some o) : mEv mG 206 [.ref a0, .int a1, .int a2, .int a3, .int a4] μ (some (.int o)) (μ) := by
  obtain ⟨r, hC⟩ : ∃ r : Option Value × mM, r = (some (.int o), μ) := ⟨_, rfl⟩
  show mGo mG (206, List.drop 0 mC206, [.ref a0, .int a1, .int a2, .int a3, .int a4, .retAddr 0], [], μ) (some (.int o), μ)
  rw [← hC]
  unfold s206 at hr
  refine mGo.steps 2 (c' := (206, List.drop 2 mC206, [.ref a0, .int a1, .int a2, .int a3, .int a4, .retAddr 0], [.int a1, .ref a0], μ)) rfl ?_
  obtain ⟨h1, hr⟩ := mIf hr
  obtain ⟨q2, h3, hr⟩ := mBi hr
  refine gCall (z := 161) (n := 1) (f := 0) (kind := 1) (a := a0) (As := [.int a1]) (y := 206) (is := List.drop 3 mC206) (L := [.ref a0, .int a1, .int a2, .int a3, .int a4, .retAddr 0]) (rest := []) (μ := μ) rfl (by decide) (by decide) ⟨rfl, rfl⟩ rfl h1 (Nat.le_of_ble_eq_true rfl) (Nat.le_of_ble_eq_true rfl) (t161 h3) ?_
  rcases mIte hr with ⟨h26, hr⟩ | ⟨h26, hr⟩
  · refine gBrT (p := q2 = 0) (y := 206) (is := List.drop 4 mC206) (L := [.ref a0, .int a1, .int a2, .int a3, .int a4, .retAddr 0]) (st := []) (μ := μ) (t := 27) rfl h26 ?_
    exact t206_14 μ a0 a1 a2 a3 a4 (.ref a0) rfl (.int a1) rfl (.int a2) rfl (.int a3) rfl (.int a4) rfl (.retAddr 0) rfl hr hC
  · refine gBrF (p := q2 = 0) (y := 206) (is := List.drop 4 mC206) (L := [.ref a0, .int a1, .int a2, .int a3, .int a4, .retAddr 0]) (st := []) (μ := μ) (t := 27) rfl h26 ?_
    refine mGo.steps 3 (c' := (206, List.drop 7 mC206, [.ref a0, .int a1, .int a2, .int a3, .int a4, .retAddr 0], [.int 1, .int 0, .int a2], μ)) rfl ?_
    obtain ⟨q4, h5, hr⟩ := mBi hr
    refine mGo.call (z := 144) (as := [.int a2, .int 0, .int 1]) (y := 206) (is := List.drop 8 mC206) (L := [.ref a0, .int a1, .int a2, .int a3, .int a4, .retAddr 0]) (st := []) (μ := μ) rfl (t144 h5) ?_
    rcases mIte hr with ⟨h25, hr⟩ | ⟨h25, hr⟩
    · refine gBrT (p := q4 = 0) (y := 206) (is := List.drop 9 mC206) (L := [.ref a0, .int a1, .int a2, .int a3, .int a4, .retAddr 0]) (st := []) (μ := μ) (t := 27) rfl h25 ?_
      exact t206_14 μ a0 a1 a2 a3 a4 (.ref a0) rfl (.int a1) rfl (.int a2) rfl (.int a3) rfl (.int a4) rfl (.retAddr 0) rfl hr hC
    · refine gBrF (p := q4 = 0) (y := 206) (is := List.drop 9 mC206) (L := [.ref a0, .int a1, .int a2, .int a3, .int a4, .retAddr 0]) (st := []) (μ := μ) (t := 27) rfl h25 ?_
      refine mGo.steps 3 (c' := (206, List.drop 12 mC206, [.ref a0, .int a1, .int a2, .int a3, .int a4, .retAddr 0], [.int 3, .int 0, .int a4], μ)) rfl ?_
      obtain ⟨q6, h7, hr⟩ := mBi hr
      refine mGo.call (z := 144) (as := [.int a4, .int 0, .int 3]) (y := 206) (is := List.drop 13 mC206) (L := [.ref a0, .int a1, .int a2, .int a3, .int a4, .retAddr 0]) (st := []) (μ := μ) rfl (t144 h7) ?_
      rcases mIte hr with ⟨h24, hr⟩ | ⟨h24, hr⟩
      · refine gBrT (p := ¬ q6 = 0) (y := 206) (is := List.drop 14 mC206) (L := [.ref a0, .int a1, .int a2, .int a3, .int a4, .retAddr 0]) (st := []) (μ := μ) (t := 29) rfl h24 ?_
        refine mGo.steps 3 (c' := (206, List.drop 19 mC206, [.ref a0, .int a1, .int a2, .int a3, .int a4, .retAddr 0], [.int 2, .int a1, .ref a0], μ)) rfl ?_
        obtain ⟨q8, h9, hr⟩ := mBi hr
        refine gCall (z := 159) (n := 2) (f := 0) (kind := 1) (a := a0) (As := [.int a1, .int 2]) (y := 206) (is := List.drop 20 mC206) (L := [.ref a0, .int a1, .int a2, .int a3, .int a4, .retAddr 0]) (rest := []) (μ := μ) rfl (by decide) (by decide) ⟨rfl, rfl⟩ rfl h1 (Nat.le_of_ble_eq_true rfl) (Nat.le_of_ble_eq_true rfl) (t159 h9) ?_
        refine mGo.steps 4 (c' := (206, List.drop 24 mC206, [.ref a0, .int a1, .int a2, .int a3, .int a4, .int q8], [.int a2, .int a1, .ref a0], μ)) rfl ?_
        obtain ⟨q10, h11, hr⟩ := mBi hr
        refine gCall (z := 203) (n := 2) (f := 0) (kind := 1) (a := a0) (As := [.int a1, .int a2]) (y := 206) (is := List.drop 25 mC206) (L := [.ref a0, .int a1, .int a2, .int a3, .int a4, .int q8]) (rest := []) (μ := μ) rfl (by decide) (by decide) ⟨rfl, rfl⟩ rfl h1 (Nat.le_of_ble_eq_true rfl) (Nat.le_of_ble_eq_true rfl) (t203 h11) ?_
        rcases mIte hr with ⟨h23, hr⟩ | ⟨h23, hr⟩
        · refine gBrT (p := q10 = 0) (y := 206) (is := List.drop 26 mC206) (L := [.ref a0, .int a1, .int a2, .int a3, .int a4, .int q8]) (st := []) (μ := μ) (t := 62) rfl h23 ?_
          exact t206_35 μ a0 a1 a2 a3 a4 (.ref a0) rfl (.int a1) rfl (.int a2) rfl (.int a3) rfl (.int a4) rfl (.int q8) rfl hr hC
        · refine gBrF (p := q10 = 0) (y := 206) (is := List.drop 26 mC206) (L := [.ref a0, .int a1, .int a2, .int a3, .int a4, .int q8]) (st := []) (μ := μ) (t := 62) rfl h23 ?_
          refine mGo.steps 4 (c' := (206, List.drop 30 mC206, [.ref a0, .int a1, .int a2, .int a3, .int a4, .int q8], [.int q8, .ref a0, .int 0, .int a3], μ)) rfl ?_
          obtain ⟨q12, h13, hr⟩ := mBi hr
          refine gCall (z := 152) (n := 1) (f := 0) (kind := 1) (a := a0) (As := [.int q8]) (y := 206) (is := List.drop 31 mC206) (L := [.ref a0, .int a1, .int a2, .int a3, .int a4, .int q8]) (rest := [.int 0, .int a3]) (μ := μ) rfl (by decide) (by decide) ⟨rfl, rfl⟩ rfl h1 (Nat.le_of_ble_eq_true rfl) (Nat.le_of_ble_eq_true rfl) (t152 h13) ?_
          refine mGo.steps 2 (c' := (206, List.drop 33 mC206, [.ref a0, .int a1, .int a2, .int a3, .int a4, .int q8], [.int (q12 - 1), .int 0, .int a3], μ)) rfl ?_
          obtain ⟨q14, h15, hr⟩ := mBi hr
          refine mGo.call (z := 144) (as := [.int a3, .int 0, .int (q12 - 1)]) (y := 206) (is := List.drop 34 mC206) (L := [.ref a0, .int a1, .int a2, .int a3, .int a4, .int q8]) (st := []) (μ := μ) rfl (t144 h15) ?_
          rcases mIte hr with ⟨h22, hr⟩ | ⟨h22, hr⟩
          · refine gBrT (p := ¬ q14 = 0) (y := 206) (is := List.drop 35 mC206) (L := [.ref a0, .int a1, .int a2, .int a3, .int a4, .int q8]) (st := []) (μ := μ) (t := 65) rfl h22 ?_
            refine mGo.steps 1 (c' := (206, List.drop 38 mC206, [.ref a0, .int a1, .int a2, .int a3, .int a4, .int q8], [.int a4], μ)) rfl ?_
            rcases mIte hr with ⟨h21, hr⟩ | ⟨h21, hr⟩
            · refine gBrT (p := ¬ a4 = 0) (y := 206) (is := List.drop 39 mC206) (L := [.ref a0, .int a1, .int a2, .int a3, .int a4, .int q8]) (st := []) (μ := μ) (t := 81) rfl h21 ?_
              refine mGo.steps 1 (c' := (206, List.drop 46 mC206, [.ref a0, .int a1, .int a2, .int a3, .int a4, .int q8], [.ref a0], μ)) rfl ?_
              refine gGet (is := List.drop 47 mC206) (v := .ref (mP μ a0 0)) h1 rfl ?_
              refine mGo.steps 3 (c' := (206, List.drop 50 mC206, [.ref a0, .int a1, .int a2, .int a3, .int a4, .int q8], [.int a3, .int a2, .int a1, .ref (mP μ a0 0)], μ)) rfl ?_
              obtain ⟨q16, h17, hr⟩ := mBi hr
              refine mGo.call (z := 163) (as := [.int a1, .int a2, .int a3]) (y := 206) (is := List.drop 51 mC206) (L := [.ref a0, .int a1, .int a2, .int a3, .int a4, .int q8]) (st := [.ref (mP μ a0 0)]) (μ := μ) rfl (t163 h17) ?_
              refine mGo.steps 4 (c' := (206, List.drop 55 mC206, [.ref a0, .int a1, .int a2, .int a3, .int a4, .int q8], [.int ((q16 + a4) - 1), .ref (mP μ a0 0)], μ)) rfl ?_
              obtain ⟨h18, hr⟩ := mIf hr
              refine gIald (is := List.drop 56 mC206) h18 ?_
              exact t206_56 μ a0 a1 a2 a3 a4 (mI μ (mP μ a0 0) (Int32.toNatClampNeg ((q16 + a4) - 1))) (.ref a0) rfl (.int a1) rfl (.int a2) rfl (.int a3) rfl (.int a4) rfl (.int q8) rfl hr hC
            · refine gBrF (p := ¬ a4 = 0) (y := 206) (is := List.drop 39 mC206) (L := [.ref a0, .int a1, .int a2, .int a3, .int a4, .int q8]) (st := []) (μ := μ) (t := 81) rfl h21 ?_
              refine mGo.steps 4 (c' := (206, List.drop 43 mC206, [.ref a0, .int a1, .int a2, .int a3, .int a4, .int q8], [.int a3, .int a2, .int q8, .ref a0], μ)) rfl ?_
              obtain ⟨q19, h20, hr⟩ := mBi hr
              refine gCall (z := 165) (n := 3) (f := 0) (kind := 1) (a := a0) (As := [.int q8, .int a2, .int a3]) (y := 206) (is := List.drop 44 mC206) (L := [.ref a0, .int a1, .int a2, .int a3, .int a4, .int q8]) (rest := []) (μ := μ) rfl (by decide) (by decide) ⟨rfl, rfl⟩ rfl h1 (Nat.le_of_ble_eq_true rfl) (Nat.le_of_ble_eq_true rfl) (t165 h20) ?_
              refine mGo.steps 1 (c' := (206, List.drop 56 mC206, [.ref a0, .int a1, .int a2, .int a3, .int a4, .int q8], [.int q19], μ)) rfl ?_
              exact t206_56 μ a0 a1 a2 a3 a4 q19 (.ref a0) rfl (.int a1) rfl (.int a2) rfl (.int a3) rfl (.int a4) rfl (.int q8) rfl hr hC
          · refine gBrF (p := ¬ q14 = 0) (y := 206) (is := List.drop 35 mC206) (L := [.ref a0, .int a1, .int a2, .int a3, .int a4, .int q8]) (st := []) (μ := μ) (t := 65) rfl h22 ?_
            exact t206_35 μ a0 a1 a2 a3 a4 (.ref a0) rfl (.int a1) rfl (.int a2) rfl (.int a3) rfl (.int a4) rfl (.int q8) rfl hr hC
      · refine gBrF (p := ¬ q6 = 0) (y := 206) (is := List.drop 14 mC206) (L := [.ref a0, .int a1, .int a2, .int a3, .int a4, .retAddr 0]) (st := []) (μ := μ) (t := 29) rfl h24 ?_
        exact t206_14 μ a0 a1 a2 a3 a4 (.ref a0) rfl (.int a1) rfl (.int a2) rfl (.int a3) rfl (.int a4) rfl (.retAddr 0) rfl hr hC

/-! 207: TunnelFabricModel.cellCount(III)I -/
def s207_14 (μ : mM) (a0 : Nat) (a1 : Int32) (a2 : Int32) (a3 : Int32) : Option Int32 :=
  some (-1)
set_option maxRecDepth 20000 in
theorem t207_14 (μ : mM) (a0 : Nat) (a1 : Int32) (a2 : Int32) (a3 : Int32) (w0 : Value) (hw0 : mNotL w0 = true) (w1 : Value) (hw1 : mNotL w1 = true) (w2 : Value) (hw2 : mNotL w2 = true) (w3 : Value) (hw3 : mNotL w3 = true) (w4 : Value) (hw4 : mNotL w4 = true) (w5 : Value) (hw5 : mNotL w5 = true) (w6 : Value) (hw6 : mNotL w6 = true) {o : Int32} {r : Option Value × mM} (hr : s207_14 μ a0 a1 a2 a3 = some o) (hC : r = (some (.int o), μ)) : mGo mG (207, List.drop 14 mC207, [w0, w1, w2, w3, w4, w5, w6], [], μ) r := by
  unfold s207_14 at hr
  refine mGo.steps 1 (c' := (207, List.drop 15 mC207, [w0, w1, w2, w3, w4, w5, w6], [.int (-1)], μ)) rfl ?_
  obtain rfl := Option.some.inj hr
  rw [show r = _ from hC]
  exact gIret rfl
def s207L54 (μ : mM) (p0 : Nat) (p1 : Int32) (p2 : Int32) (s : Int32 × Int32) : Option ((Int32 × Int32) ⊕ ((Int32) ⊕ Int32)) :=
  if 4 ≤ s.2 then (some (.inr (.inl s.1))) else (if (mS μ p0).1 = 9 then (s163 μ p1 p2 s.2).bind fun q11 => if (mS μ (mP μ p0 0)).1 = 10 ∧ mInb (q11 + 2) (mS μ (mP μ p0 0)).2 then some (.inl (s.1 + (mI μ (mP μ p0 0) (Int32.toNatClampNeg (q11 + 2))), s.2 + 1)) else none else none)
set_option maxRecDepth 20000 in
theorem t207L54 (μ : mM) (p0 : Nat) (p1 : Int32) (p2 : Int32) {r : Option Value × mM} (s : Int32 × Int32) (o : ((Int32 × Int32) ⊕ ((Int32) ⊕ Int32))) (hr : s207L54 μ p0 p1 p2 s = some o) (hC : Sum.elim (fun s' : Int32 × Int32 => ∀ (w3 : Value) (hw3 : mNotL w3 = true) (w4 : Value) (hw4 : mNotL w4 = true), mGo mG (207, List.drop 54 mC207, [.ref p0, .int p1, .int p2, w3, w4, .int s'.1, .int s'.2], [], μ) r) (Sum.elim (fun x : Int32 => ∀ (w0 : Value) (hw0 : mNotL w0 = true) (w1 : Value) (hw1 : mNotL w1 = true) (w2 : Value) (hw2 : mNotL w2 = true) (w3 : Value) (hw3 : mNotL w3 = true) (w4 : Value) (hw4 : mNotL w4 = true) (w6 : Value) (hw6 : mNotL w6 = true), mGo mG (207, List.drop 71 mC207, [w0, w1, w2, w3, w4, .int x, w6], [], μ) r) (fun y : Int32 => r = (some (.int y), μ))) o) : ∀ (w3 : Value) (hw3 : mNotL w3 = true) (w4 : Value) (hw4 : mNotL w4 = true), mGo mG (207, List.drop 54 mC207, [.ref p0, .int p1, .int p2, w3, w4, .int s.1, .int s.2], [], μ) r := by
  intro w3 hw3 w4 hw4
  unfold s207L54 at hr
  refine mGo.steps 2 (c' := (207, List.drop 56 mC207, [.ref p0, .int p1, .int p2, w3, w4, .int s.1, .int s.2], [.int 4, .int s.2], μ)) rfl ?_
  rcases mIte hr with ⟨h14, hr⟩ | ⟨h14, hr⟩
  · refine gBrT (p := 4 ≤ s.2) (y := 207) (is := List.drop 57 mC207) (L := [.ref p0, .int p1, .int p2, w3, w4, .int s.1, .int s.2]) (st := []) (μ := μ) (t := 119) rfl h14 ?_
    obtain rfl := Option.some.inj hr
    exact hC (.ref p0) rfl (.int p1) rfl (.int p2) rfl w3 hw3 w4 hw4 (.int s.2) rfl
  · refine gBrF (p := 4 ≤ s.2) (y := 207) (is := List.drop 57 mC207) (L := [.ref p0, .int p1, .int p2, w3, w4, .int s.1, .int s.2]) (st := []) (μ := μ) (t := 119) rfl h14 ?_
    refine mGo.steps 2 (c' := (207, List.drop 59 mC207, [.ref p0, .int p1, .int p2, w3, w4, .int s.1, .int s.2], [.ref p0, .int s.1], μ)) rfl ?_
    obtain ⟨h10, hr⟩ := mIf hr
    refine gGet (is := List.drop 60 mC207) (v := .ref (mP μ p0 0)) h10 rfl ?_
    refine mGo.steps 3 (c' := (207, List.drop 63 mC207, [.ref p0, .int p1, .int p2, w3, w4, .int s.1, .int s.2], [.int s.2, .int p2, .int p1, .ref (mP μ p0 0), .int s.1], μ)) rfl ?_
    obtain ⟨q11, h12, hr⟩ := mBi hr
    refine mGo.call (z := 163) (as := [.int p1, .int p2, .int s.2]) (y := 207) (is := List.drop 64 mC207) (L := [.ref p0, .int p1, .int p2, w3, w4, .int s.1, .int s.2]) (st := [.ref (mP μ p0 0), .int s.1]) (μ := μ) rfl (t163 h12) ?_
    refine mGo.steps 2 (c' := (207, List.drop 66 mC207, [.ref p0, .int p1, .int p2, w3, w4, .int s.1, .int s.2], [.int (q11 + 2), .ref (mP μ p0 0), .int s.1], μ)) rfl ?_
    obtain ⟨h13, hr⟩ := mIf hr
    refine gIald (is := List.drop 67 mC207) h13 ?_
    refine mGo.steps 1 (c' := (207, List.drop 68 mC207, [.ref p0, .int p1, .int p2, w3, w4, .int s.1, .int s.2], [.int (s.1 + (mI μ (mP μ p0 0) (Int32.toNatClampNeg (q11 + 2))))], μ)) rfl ?_
    refine gSt1 (L := [.ref p0, .int p1, .int p2, w3, w4, .int s.1, .int s.2]) (q := 5) (w := .int (s.1 + (mI μ (mP μ p0 0) (Int32.toNatClampNeg (q11 + 2))))) (is := List.drop 69 mC207) (st := []) (μ := μ) rfl (Nat.le_of_ble_eq_true rfl) hw4 ?_
    refine mGo.steps 2 (c' := (207, List.drop 54 mC207, [.ref p0, .int p1, .int p2, w3, w4, .int (s.1 + (mI μ (mP μ p0 0) (Int32.toNatClampNeg (q11 + 2)))), .int (s.2 + 1)], [], μ)) rfl ?_
    obtain rfl := Option.some.inj hr
    exact hC w3 hw3 w4 hw4
theorem t207L54l (μ : mM) (p0 : Nat) (p1 : Int32) (p2 : Int32) {r : Option Value × mM} (n : Nat) (s : Int32 × Int32) (o : (Int32) ⊕ Int32) (hr : mLoop (s207L54 μ p0 p1 p2) n s = some o) (hC : Sum.elim (fun x : Int32 => ∀ (w0 : Value) (hw0 : mNotL w0 = true) (w1 : Value) (hw1 : mNotL w1 = true) (w2 : Value) (hw2 : mNotL w2 = true) (w3 : Value) (hw3 : mNotL w3 = true) (w4 : Value) (hw4 : mNotL w4 = true) (w6 : Value) (hw6 : mNotL w6 = true), mGo mG (207, List.drop 71 mC207, [w0, w1, w2, w3, w4, .int x, w6], [], μ) r) (fun y : Int32 => r = (some (.int y), μ)) o) : ∀ (w3 : Value) (hw3 : mNotL w3 = true) (w4 : Value) (hw4 : mNotL w4 = true), mGo mG (207, List.drop 54 mC207, [.ref p0, .int p1, .int p2, w3, w4, .int s.1, .int s.2], [], μ) r :=
  mLoop_go (Hd := (fun s' : Int32 × Int32 => ∀ (w3 : Value) (hw3 : mNotL w3 = true) (w4 : Value) (hw4 : mNotL w4 = true), mGo mG (207, List.drop 54 mC207, [.ref p0, .int p1, .int p2, w3, w4, .int s'.1, .int s'.2], [], μ) r)) (fun s o hb hC => t207L54 μ p0 p1 p2 s o hb hC) n s o hr hC
def s207_49 (μ : mM) (a0 : Nat) (a1 : Int32) (a2 : Int32) (a3 : Int32) (t0 : Int32) : Option Int32 :=
  some t0
set_option maxRecDepth 20000 in
theorem t207_49 (μ : mM) (a0 : Nat) (a1 : Int32) (a2 : Int32) (a3 : Int32) (t0 : Int32) (w0 : Value) (hw0 : mNotL w0 = true) (w1 : Value) (hw1 : mNotL w1 = true) (w2 : Value) (hw2 : mNotL w2 = true) (w3 : Value) (hw3 : mNotL w3 = true) (w4 : Value) (hw4 : mNotL w4 = true) (w5 : Value) (hw5 : mNotL w5 = true) (w6 : Value) (hw6 : mNotL w6 = true) {o : Int32} {r : Option Value × mM} (hr : s207_49 μ a0 a1 a2 a3 t0 = some o) (hC : r = (some (.int o), μ)) : mGo mG (207, List.drop 49 mC207, [w0, w1, w2, w3, w4, w5, w6], [.int t0], μ) r := by
  unfold s207_49 at hr
  obtain rfl := Option.some.inj hr
  rw [show r = _ from hC]
  exact gIret rfl
def s207 (μ : mM) (a0 : Nat) (a1 : Int32) (a2 : Int32) (a3 : Int32) : Option Int32 :=
  if (mS μ a0).1 = 9 then (s161 μ a0 a1).bind fun q2 => if q2 = 0 then (s207_14 μ a0 a1 a2 a3) else ((s144 μ a2 0 1).bind fun q4 => if q4 = 0 then (s207_14 μ a0 a1 a2 a3) else ((s144 μ a3 0 2).bind fun q6 => if ¬ q6 = 0 then ((s203 μ a0 a1 a2).bind fun q8 => if ¬ q8 = 0 then (if a3 = 1 then ((mLoop (s207L54 μ a0 a1 a2) 1000 (0, 0)).bind fun o15 => Sum.elim (fun x16 => some x16) (fun y17 => some y17) o15) else (if ¬ a3 = 0 then (if (mS μ (mP μ a0 0)).1 = 10 ∧ mInb (((132 + (4 * a1)) + (2 * a2)) + 1) (mS μ (mP μ a0 0)).2 then s207_49 μ a0 a1 a2 a3 (mI μ (mP μ a0 0) (Int32.toNatClampNeg (((132 + (4 * a1)) + (2 * a2)) + 1))) else none) else (if (mS μ (mP μ a0 0)).1 = 10 ∧ mInb ((132 + (4 * a1)) + (2 * a2)) (mS μ (mP μ a0 0)).2 then s207_49 μ a0 a1 a2 a3 (mI μ (mP μ a0 0) (Int32.toNatClampNeg ((132 + (4 * a1)) + (2 * a2)))) else none))) else (some (-10))) else (s207_14 μ a0 a1 a2 a3))) else none
set_option maxRecDepth 20000 in
theorem t207 {μ : mM} {a0 : Nat} {a1 : Int32} {a2 : Int32} {a3 : Int32} {o : Int32} (hr : s207 μ a0 a1 a2 a3 = some o) : mEv mG 207 [.ref a0, .int a1, .int a2, .int a3] μ (some (.int o)) (μ) := by
  obtain ⟨r, hC⟩ : ∃ r : Option Value × mM, r = (some (.int o), μ) := ⟨_, rfl⟩
  show mGo mG (207, List.drop 0 mC207, [.ref a0, .int a1, .int a2, .int a3, .retAddr 0, .retAddr 0, .retAddr 0], [], μ) (some (.int o), μ)
  rw [← hC]
  unfold s207 at hr
  refine mGo.steps 2 (c' := (207, List.drop 2 mC207, [.ref a0, .int a1, .int a2, .int a3, .retAddr 0, .retAddr 0, .retAddr 0], [.int a1, .ref a0], μ)) rfl ?_
  obtain ⟨h1, hr⟩ := mIf hr
  obtain ⟨q2, h3, hr⟩ := mBi hr
  refine gCall (z := 161) (n := 1) (f := 0) (kind := 1) (a := a0) (As := [.int a1]) (y := 207) (is := List.drop 3 mC207) (L := [.ref a0, .int a1, .int a2, .int a3, .retAddr 0, .retAddr 0, .retAddr 0]) (rest := []) (μ := μ) rfl (by decide) (by decide) ⟨rfl, rfl⟩ rfl h1 (Nat.le_of_ble_eq_true rfl) (Nat.le_of_ble_eq_true rfl) (t161 h3) ?_
  rcases mIte hr with ⟨h26, hr⟩ | ⟨h26, hr⟩
  · refine gBrT (p := q2 = 0) (y := 207) (is := List.drop 4 mC207) (L := [.ref a0, .int a1, .int a2, .int a3, .retAddr 0, .retAddr 0, .retAddr 0]) (st := []) (μ := μ) (t := 26) rfl h26 ?_
    exact t207_14 μ a0 a1 a2 a3 (.ref a0) rfl (.int a1) rfl (.int a2) rfl (.int a3) rfl (.retAddr 0) rfl (.retAddr 0) rfl (.retAddr 0) rfl hr hC
  · refine gBrF (p := q2 = 0) (y := 207) (is := List.drop 4 mC207) (L := [.ref a0, .int a1, .int a2, .int a3, .retAddr 0, .retAddr 0, .retAddr 0]) (st := []) (μ := μ) (t := 26) rfl h26 ?_
    refine mGo.steps 3 (c' := (207, List.drop 7 mC207, [.ref a0, .int a1, .int a2, .int a3, .retAddr 0, .retAddr 0, .retAddr 0], [.int 1, .int 0, .int a2], μ)) rfl ?_
    obtain ⟨q4, h5, hr⟩ := mBi hr
    refine mGo.call (z := 144) (as := [.int a2, .int 0, .int 1]) (y := 207) (is := List.drop 8 mC207) (L := [.ref a0, .int a1, .int a2, .int a3, .retAddr 0, .retAddr 0, .retAddr 0]) (st := []) (μ := μ) rfl (t144 h5) ?_
    rcases mIte hr with ⟨h25, hr⟩ | ⟨h25, hr⟩
    · refine gBrT (p := q4 = 0) (y := 207) (is := List.drop 9 mC207) (L := [.ref a0, .int a1, .int a2, .int a3, .retAddr 0, .retAddr 0, .retAddr 0]) (st := []) (μ := μ) (t := 26) rfl h25 ?_
      exact t207_14 μ a0 a1 a2 a3 (.ref a0) rfl (.int a1) rfl (.int a2) rfl (.int a3) rfl (.retAddr 0) rfl (.retAddr 0) rfl (.retAddr 0) rfl hr hC
    · refine gBrF (p := q4 = 0) (y := 207) (is := List.drop 9 mC207) (L := [.ref a0, .int a1, .int a2, .int a3, .retAddr 0, .retAddr 0, .retAddr 0]) (st := []) (μ := μ) (t := 26) rfl h25 ?_
      refine mGo.steps 3 (c' := (207, List.drop 12 mC207, [.ref a0, .int a1, .int a2, .int a3, .retAddr 0, .retAddr 0, .retAddr 0], [.int 2, .int 0, .int a3], μ)) rfl ?_
      obtain ⟨q6, h7, hr⟩ := mBi hr
      refine mGo.call (z := 144) (as := [.int a3, .int 0, .int 2]) (y := 207) (is := List.drop 13 mC207) (L := [.ref a0, .int a1, .int a2, .int a3, .retAddr 0, .retAddr 0, .retAddr 0]) (st := []) (μ := μ) rfl (t144 h7) ?_
      rcases mIte hr with ⟨h24, hr⟩ | ⟨h24, hr⟩
      · refine gBrT (p := ¬ q6 = 0) (y := 207) (is := List.drop 14 mC207) (L := [.ref a0, .int a1, .int a2, .int a3, .retAddr 0, .retAddr 0, .retAddr 0]) (st := []) (μ := μ) (t := 28) rfl h24 ?_
        refine mGo.steps 3 (c' := (207, List.drop 19 mC207, [.ref a0, .int a1, .int a2, .int a3, .retAddr 0, .retAddr 0, .retAddr 0], [.int a2, .int a1, .ref a0], μ)) rfl ?_
        obtain ⟨q8, h9, hr⟩ := mBi hr
        refine gCall (z := 203) (n := 2) (f := 0) (kind := 1) (a := a0) (As := [.int a1, .int a2]) (y := 207) (is := List.drop 20 mC207) (L := [.ref a0, .int a1, .int a2, .int a3, .retAddr 0, .retAddr 0, .retAddr 0]) (rest := []) (μ := μ) rfl (by decide) (by decide) ⟨rfl, rfl⟩ rfl h1 (Nat.le_of_ble_eq_true rfl) (Nat.le_of_ble_eq_true rfl) (t203 h9) ?_
        rcases mIte hr with ⟨h23, hr⟩ | ⟨h23, hr⟩
        · refine gBrT (p := ¬ q8 = 0) (y := 207) (is := List.drop 21 mC207) (L := [.ref a0, .int a1, .int a2, .int a3, .retAddr 0, .retAddr 0, .retAddr 0]) (st := []) (μ := μ) (t := 40) rfl h23 ?_
          refine mGo.steps 12 (c' := (207, List.drop 35 mC207, [.ref a0, .int a1, .int a2, .int a3, .int ((132 + (4 * a1)) + (2 * a2)), .retAddr 0, .retAddr 0], [.int 1, .int a3], μ)) rfl ?_
          rcases mIte hr with ⟨h22, hr⟩ | ⟨h22, hr⟩
          · refine gBrT (p := a3 = 1) (y := 207) (is := List.drop 36 mC207) (L := [.ref a0, .int a1, .int a2, .int a3, .int ((132 + (4 * a1)) + (2 * a2)), .retAddr 0, .retAddr 0]) (st := []) (μ := μ) (t := 82) rfl h22 ?_
            refine mGo.steps 4 (c' := (207, List.drop 54 mC207, [.ref a0, .int a1, .int a2, .int a3, .int ((132 + (4 * a1)) + (2 * a2)), .int 0, .int 0], [], μ)) rfl ?_
            obtain ⟨o15, h18, hr⟩ := mBi hr
            refine t207L54l μ a0 a1 a2 1000 (0, 0) o15 h18 ?_ (.int a3) rfl (.int ((132 + (4 * a1)) + (2 * a2))) rfl
            cases o15 with
            | inl x16 =>
              show ∀ (w0 : Value) (hw0 : mNotL w0 = true) (w1 : Value) (hw1 : mNotL w1 = true) (w2 : Value) (hw2 : mNotL w2 = true) (w3 : Value) (hw3 : mNotL w3 = true) (w4 : Value) (hw4 : mNotL w4 = true) (w6 : Value) (hw6 : mNotL w6 = true), mGo mG (207, List.drop 71 mC207, [w0, w1, w2, w3, w4, .int x16, w6], [], μ) r
              intro w0 hw0 w1 hw1 w2 hw2 w3 hw3 w4 hw4 w6 hw6
              replace hr : (_) = some _ := hr
              refine mGo.steps 1 (c' := (207, List.drop 72 mC207, [w0, w1, w2, w3, w4, .int x16, w6], [.int x16], μ)) rfl ?_
              obtain rfl := Option.some.inj hr
              rw [show r = _ from hC]
              exact gIret rfl
            | inr y17 =>
              obtain rfl := Option.some.inj hr
              exact hC
          · refine gBrF (p := a3 = 1) (y := 207) (is := List.drop 36 mC207) (L := [.ref a0, .int a1, .int a2, .int a3, .int ((132 + (4 * a1)) + (2 * a2)), .retAddr 0, .retAddr 0]) (st := []) (μ := μ) (t := 82) rfl h22 ?_
            refine mGo.steps 1 (c' := (207, List.drop 37 mC207, [.ref a0, .int a1, .int a2, .int a3, .int ((132 + (4 * a1)) + (2 * a2)), .retAddr 0, .retAddr 0], [.int a3], μ)) rfl ?_
            rcases mIte hr with ⟨h21, hr⟩ | ⟨h21, hr⟩
            · refine gBrT (p := ¬ a3 = 0) (y := 207) (is := List.drop 38 mC207) (L := [.ref a0, .int a1, .int a2, .int a3, .int ((132 + (4 * a1)) + (2 * a2)), .retAddr 0, .retAddr 0]) (st := []) (μ := μ) (t := 72) rfl h21 ?_
              refine mGo.steps 1 (c' := (207, List.drop 44 mC207, [.ref a0, .int a1, .int a2, .int a3, .int ((132 + (4 * a1)) + (2 * a2)), .retAddr 0, .retAddr 0], [.ref a0], μ)) rfl ?_
              refine gGet (is := List.drop 45 mC207) (v := .ref (mP μ a0 0)) h1 rfl ?_
              refine mGo.steps 3 (c' := (207, List.drop 48 mC207, [.ref a0, .int a1, .int a2, .int a3, .int ((132 + (4 * a1)) + (2 * a2)), .retAddr 0, .retAddr 0], [.int (((132 + (4 * a1)) + (2 * a2)) + 1), .ref (mP μ a0 0)], μ)) rfl ?_
              obtain ⟨h19, hr⟩ := mIf hr
              refine gIald (is := List.drop 49 mC207) h19 ?_
              exact t207_49 μ a0 a1 a2 a3 (mI μ (mP μ a0 0) (Int32.toNatClampNeg (((132 + (4 * a1)) + (2 * a2)) + 1))) (.ref a0) rfl (.int a1) rfl (.int a2) rfl (.int a3) rfl (.int ((132 + (4 * a1)) + (2 * a2))) rfl (.retAddr 0) rfl (.retAddr 0) rfl hr hC
            · refine gBrF (p := ¬ a3 = 0) (y := 207) (is := List.drop 38 mC207) (L := [.ref a0, .int a1, .int a2, .int a3, .int ((132 + (4 * a1)) + (2 * a2)), .retAddr 0, .retAddr 0]) (st := []) (μ := μ) (t := 72) rfl h21 ?_
              refine mGo.steps 1 (c' := (207, List.drop 39 mC207, [.ref a0, .int a1, .int a2, .int a3, .int ((132 + (4 * a1)) + (2 * a2)), .retAddr 0, .retAddr 0], [.ref a0], μ)) rfl ?_
              refine gGet (is := List.drop 40 mC207) (v := .ref (mP μ a0 0)) h1 rfl ?_
              refine mGo.steps 1 (c' := (207, List.drop 41 mC207, [.ref a0, .int a1, .int a2, .int a3, .int ((132 + (4 * a1)) + (2 * a2)), .retAddr 0, .retAddr 0], [.int ((132 + (4 * a1)) + (2 * a2)), .ref (mP μ a0 0)], μ)) rfl ?_
              obtain ⟨h20, hr⟩ := mIf hr
              refine gIald (is := List.drop 42 mC207) h20 ?_
              refine mGo.steps 1 (c' := (207, List.drop 49 mC207, [.ref a0, .int a1, .int a2, .int a3, .int ((132 + (4 * a1)) + (2 * a2)), .retAddr 0, .retAddr 0], [.int (mI μ (mP μ a0 0) (Int32.toNatClampNeg ((132 + (4 * a1)) + (2 * a2))))], μ)) rfl ?_
              exact t207_49 μ a0 a1 a2 a3 (mI μ (mP μ a0 0) (Int32.toNatClampNeg ((132 + (4 * a1)) + (2 * a2)))) (.ref a0) rfl (.int a1) rfl (.int a2) rfl (.int a3) rfl (.int ((132 + (4 * a1)) + (2 * a2))) rfl (.retAddr 0) rfl (.retAddr 0) rfl hr hC
        · refine gBrF (p := ¬ q8 = 0) (y := 207) (is := List.drop 21 mC207) (L := [.ref a0, .int a1, .int a2, .int a3, .retAddr 0, .retAddr 0, .retAddr 0]) (st := []) (μ := μ) (t := 40) rfl h23 ?_
          refine mGo.steps 1 (c' := (207, List.drop 22 mC207, [.ref a0, .int a1, .int a2, .int a3, .retAddr 0, .retAddr 0, .retAddr 0], [.int (-10)], μ)) rfl ?_
          obtain rfl := Option.some.inj hr
          rw [show r = _ from hC]
          exact gIret rfl
      · refine gBrF (p := ¬ q6 = 0) (y := 207) (is := List.drop 14 mC207) (L := [.ref a0, .int a1, .int a2, .int a3, .retAddr 0, .retAddr 0, .retAddr 0]) (st := []) (μ := μ) (t := 28) rfl h24 ?_
        exact t207_14 μ a0 a1 a2 a3 (.ref a0) rfl (.int a1) rfl (.int a2) rfl (.int a3) rfl (.retAddr 0) rfl (.retAddr 0) rfl (.retAddr 0) rfl hr hC

/-! 208: TunnelFabricModel.waiting(III)I -/
def s208_26 (μ : mM) (a0 : Nat) (a1 : Int32) (a2 : Int32) (a3 : Int32) (t0 : Int32) : Option Int32 :=
  some t0
set_option maxRecDepth 20000 in
theorem t208_26 (μ : mM) (a0 : Nat) (a1 : Int32) (a2 : Int32) (a3 : Int32) (t0 : Int32) (w0 : Value) (hw0 : mNotL w0 = true) (w1 : Value) (hw1 : mNotL w1 = true) (w2 : Value) (hw2 : mNotL w2 = true) (w3 : Value) (hw3 : mNotL w3 = true) {o : Int32} {r : Option Value × mM} (hr : s208_26 μ a0 a1 a2 a3 t0 = some o) (hC : r = (some (.int o), μ)) : mGo mG (208, List.drop 26 mC208, [w0, w1, w2, w3], [.int t0], μ) r := by
  unfold s208_26 at hr
  obtain rfl := Option.some.inj hr
  rw [show r = _ from hC]
  exact gIret rfl
def s208 (μ : mM) (a0 : Nat) (a1 : Int32) (a2 : Int32) (a3 : Int32) : Option Int32 :=
  if ¬ a3 = 0 then (if (mS μ a0).1 = 9 then (s163 μ a1 a2 (a3 - 1)).bind fun q2 => if (mS μ (mP μ a0 0)).1 = 10 ∧ mInb (q2 + 2) (mS μ (mP μ a0 0)).2 then s208_26 μ a0 a1 a2 a3 (mI μ (mP μ a0 0) (Int32.toNatClampNeg (q2 + 2))) else none else none) else (if (mS μ a0).1 = 9 then if (mS μ (mP μ a0 0)).1 = 10 ∧ mInb ((132 + (4 * a1)) + (2 * a2)) (mS μ (mP μ a0 0)).2 then s208_26 μ a0 a1 a2 a3 (mI μ (mP μ a0 0) (Int32.toNatClampNeg ((132 + (4 * a1)) + (2 * a2)))) else none else none)
set_option maxRecDepth 20000 in
theorem t208 {μ : mM} {a0 : Nat} {a1 : Int32} {a2 : Int32} {a3 : Int32} {o : Int32} (hr : s208 μ a0 a1 a2 a3 = some o) : mEv mG 208 [.ref a0, .int a1, .int a2, .int a3] μ (some (.int o)) (μ) := by
  obtain ⟨r, hC⟩ : ∃ r : Option Value × mM, r = (some (.int o), μ) := ⟨_, rfl⟩
  show mGo mG (208, List.drop 0 mC208, [.ref a0, .int a1, .int a2, .int a3], [], μ) (some (.int o), μ)
  rw [← hC]
  unfold s208 at hr
  refine mGo.steps 1 (c' := (208, List.drop 1 mC208, [.ref a0, .int a1, .int a2, .int a3], [.int a3], μ)) rfl ?_
  rcases mIte hr with ⟨h7, hr⟩ | ⟨h7, hr⟩
  · refine gBrT (p := ¬ a3 = 0) (y := 208) (is := List.drop 2 mC208) (L := [.ref a0, .int a1, .int a2, .int a3]) (st := []) (μ := μ) (t := 23) rfl h7 ?_
    refine mGo.steps 1 (c' := (208, List.drop 16 mC208, [.ref a0, .int a1, .int a2, .int a3], [.ref a0], μ)) rfl ?_
    obtain ⟨h1, hr⟩ := mIf hr
    refine gGet (is := List.drop 17 mC208) (v := .ref (mP μ a0 0)) h1 rfl ?_
    refine mGo.steps 5 (c' := (208, List.drop 22 mC208, [.ref a0, .int a1, .int a2, .int a3], [.int (a3 - 1), .int a2, .int a1, .ref (mP μ a0 0)], μ)) rfl ?_
    obtain ⟨q2, h3, hr⟩ := mBi hr
    refine mGo.call (z := 163) (as := [.int a1, .int a2, .int (a3 - 1)]) (y := 208) (is := List.drop 23 mC208) (L := [.ref a0, .int a1, .int a2, .int a3]) (st := [.ref (mP μ a0 0)]) (μ := μ) rfl (t163 h3) ?_
    refine mGo.steps 2 (c' := (208, List.drop 25 mC208, [.ref a0, .int a1, .int a2, .int a3], [.int (q2 + 2), .ref (mP μ a0 0)], μ)) rfl ?_
    obtain ⟨h4, hr⟩ := mIf hr
    refine gIald (is := List.drop 26 mC208) h4 ?_
    exact t208_26 μ a0 a1 a2 a3 (mI μ (mP μ a0 0) (Int32.toNatClampNeg (q2 + 2))) (.ref a0) rfl (.int a1) rfl (.int a2) rfl (.int a3) rfl hr hC
  · refine gBrF (p := ¬ a3 = 0) (y := 208) (is := List.drop 2 mC208) (L := [.ref a0, .int a1, .int a2, .int a3]) (st := []) (μ := μ) (t := 23) rfl h7 ?_
    refine mGo.steps 1 (c' := (208, List.drop 3 mC208, [.ref a0, .int a1, .int a2, .int a3], [.ref a0], μ)) rfl ?_
    obtain ⟨h5, hr⟩ := mIf hr
    refine gGet (is := List.drop 4 mC208) (v := .ref (mP μ a0 0)) h5 rfl ?_
    refine mGo.steps 9 (c' := (208, List.drop 13 mC208, [.ref a0, .int a1, .int a2, .int a3], [.int ((132 + (4 * a1)) + (2 * a2)), .ref (mP μ a0 0)], μ)) rfl ?_
    obtain ⟨h6, hr⟩ := mIf hr
    refine gIald (is := List.drop 14 mC208) h6 ?_
    refine mGo.steps 1 (c' := (208, List.drop 26 mC208, [.ref a0, .int a1, .int a2, .int a3], [.int (mI μ (mP μ a0 0) (Int32.toNatClampNeg ((132 + (4 * a1)) + (2 * a2))))], μ)) rfl ?_
    exact t208_26 μ a0 a1 a2 a3 (mI μ (mP μ a0 0) (Int32.toNatClampNeg ((132 + (4 * a1)) + (2 * a2)))) (.ref a0) rfl (.int a1) rfl (.int a2) rfl (.int a3) rfl hr hC

/-! 209: TunnelFabricModel.sendable(III)I -/
def s209 (μ : mM) (a0 : Nat) (a1 : Int32) (a2 : Int32) (a3 : Int32) : Option Int32 :=
  (s163 μ a1 a2 a3).bind fun q1 => if (mS μ a0).1 = 9 then (s208 μ a0 a1 a2 a3).bind fun q4 => if (mS μ (mP μ a0 0)).1 = 10 ∧ mInb (q1 + 1) (mS μ (mP μ a0 0)).2 then if (mS μ (mP μ a0 0)).1 = 10 ∧ mInb (q1 + 2) (mS μ (mP μ a0 0)).2 then (s145 μ q4 ((mI μ (mP μ a0 0) (Int32.toNatClampNeg (q1 + 1))) - (mI μ (mP μ a0 0) (Int32.toNatClampNeg (q1 + 2))))).bind fun q8 => if (mS μ (mP μ a0 14)).1 = 10 ∧ mInb (((8 * a1) + (4 * a2)) + a3) (mS μ (mP μ a0 14)).2 then some (q8 - (mI μ (mP μ a0 14) (Int32.toNatClampNeg (((8 * a1) + (4 * a2)) + a3)))) else none else none else none else none
set_option maxRecDepth 20000 in
theorem t209 {μ : mM} {a0 : Nat} {a1 : Int32} {a2 : Int32} {a3 : Int32} {o : Int32} (hr : s209 μ a0 a1 a2 a3 = some o) : mEv mG 209 [.ref a0, .int a1, .int a2, .int a3] μ (some (.int o)) (μ) := by
  obtain ⟨r, hC⟩ : ∃ r : Option Value × mM, r = (some (.int o), μ) := ⟨_, rfl⟩
  show mGo mG (209, List.drop 0 mC209, [.ref a0, .int a1, .int a2, .int a3, .retAddr 0, .retAddr 0], [], μ) (some (.int o), μ)
  rw [← hC]
  unfold s209 at hr
  refine mGo.steps 3 (c' := (209, List.drop 3 mC209, [.ref a0, .int a1, .int a2, .int a3, .retAddr 0, .retAddr 0], [.int a3, .int a2, .int a1], μ)) rfl ?_
  obtain ⟨q1, h2, hr⟩ := mBi hr
  refine mGo.call (z := 163) (as := [.int a1, .int a2, .int a3]) (y := 209) (is := List.drop 4 mC209) (L := [.ref a0, .int a1, .int a2, .int a3, .retAddr 0, .retAddr 0]) (st := []) (μ := μ) rfl (t163 h2) ?_
  refine mGo.steps 5 (c' := (209, List.drop 9 mC209, [.ref a0, .int a1, .int a2, .int a3, .int q1, .retAddr 0], [.int a3, .int a2, .int a1, .ref a0], μ)) rfl ?_
  obtain ⟨h3, hr⟩ := mIf hr
  obtain ⟨q4, h5, hr⟩ := mBi hr
  refine gCall (z := 208) (n := 3) (f := 0) (kind := 1) (a := a0) (As := [.int a1, .int a2, .int a3]) (y := 209) (is := List.drop 10 mC209) (L := [.ref a0, .int a1, .int a2, .int a3, .int q1, .retAddr 0]) (rest := []) (μ := μ) rfl (by decide) (by decide) ⟨rfl, rfl⟩ rfl h3 (Nat.le_of_ble_eq_true rfl) (Nat.le_of_ble_eq_true rfl) (t208 h5) ?_
  refine mGo.steps 1 (c' := (209, List.drop 11 mC209, [.ref a0, .int a1, .int a2, .int a3, .int q1, .retAddr 0], [.ref a0, .int q4], μ)) rfl ?_
  refine gGet (is := List.drop 12 mC209) (v := .ref (mP μ a0 0)) h3 rfl ?_
  refine mGo.steps 3 (c' := (209, List.drop 15 mC209, [.ref a0, .int a1, .int a2, .int a3, .int q1, .retAddr 0], [.int (q1 + 1), .ref (mP μ a0 0), .int q4], μ)) rfl ?_
  obtain ⟨h6, hr⟩ := mIf hr
  refine gIald (is := List.drop 16 mC209) h6 ?_
  refine mGo.steps 1 (c' := (209, List.drop 17 mC209, [.ref a0, .int a1, .int a2, .int a3, .int q1, .retAddr 0], [.ref a0, .int (mI μ (mP μ a0 0) (Int32.toNatClampNeg (q1 + 1))), .int q4], μ)) rfl ?_
  refine gGet (is := List.drop 18 mC209) (v := .ref (mP μ a0 0)) h3 rfl ?_
  refine mGo.steps 3 (c' := (209, List.drop 21 mC209, [.ref a0, .int a1, .int a2, .int a3, .int q1, .retAddr 0], [.int (q1 + 2), .ref (mP μ a0 0), .int (mI μ (mP μ a0 0) (Int32.toNatClampNeg (q1 + 1))), .int q4], μ)) rfl ?_
  obtain ⟨h7, hr⟩ := mIf hr
  refine gIald (is := List.drop 22 mC209) h7 ?_
  refine mGo.steps 1 (c' := (209, List.drop 23 mC209, [.ref a0, .int a1, .int a2, .int a3, .int q1, .retAddr 0], [.int ((mI μ (mP μ a0 0) (Int32.toNatClampNeg (q1 + 1))) - (mI μ (mP μ a0 0) (Int32.toNatClampNeg (q1 + 2)))), .int q4], μ)) rfl ?_
  obtain ⟨q8, h9, hr⟩ := mBi hr
  refine mGo.call (z := 145) (as := [.int q4, .int ((mI μ (mP μ a0 0) (Int32.toNatClampNeg (q1 + 1))) - (mI μ (mP μ a0 0) (Int32.toNatClampNeg (q1 + 2))))]) (y := 209) (is := List.drop 24 mC209) (L := [.ref a0, .int a1, .int a2, .int a3, .int q1, .retAddr 0]) (st := []) (μ := μ) rfl (t145 h9) ?_
  refine mGo.steps 3 (c' := (209, List.drop 27 mC209, [.ref a0, .int a1, .int a2, .int a3, .int q1, .int q8], [.ref a0, .int q8], μ)) rfl ?_
  refine gGet (is := List.drop 28 mC209) (v := .ref (mP μ a0 14)) h3 rfl ?_
  refine mGo.steps 9 (c' := (209, List.drop 37 mC209, [.ref a0, .int a1, .int a2, .int a3, .int q1, .int q8], [.int (((8 * a1) + (4 * a2)) + a3), .ref (mP μ a0 14), .int q8], μ)) rfl ?_
  obtain ⟨h10, hr⟩ := mIf hr
  refine gIald (is := List.drop 38 mC209) h10 ?_
  refine mGo.steps 1 (c' := (209, List.drop 39 mC209, [.ref a0, .int a1, .int a2, .int a3, .int q1, .int q8], [.int (q8 - (mI μ (mP μ a0 14) (Int32.toNatClampNeg (((8 * a1) + (4 * a2)) + a3))))], μ)) rfl ?_
  obtain rfl := Option.some.inj hr
  rw [show r = _ from hC]
  exact gIret rfl

/-! 210: TunnelFabricModel.hasWaiting(I)Z -/
def s210L4L9_37 (μ : mM) (p0 : Nat) (p1 : Int32) (p3 : Int32) (v2 : Int32) (v4 : Int32) : Option ((Int32 × Int32) ⊕ ((Int32) ⊕ Int32)) :=
  some (.inl (v2, v4 + 1))
set_option maxRecDepth 20000 in
theorem t210L4L9_37 (μ : mM) (p0 : Nat) (p1 : Int32) (p3 : Int32) (v2 : Int32) (v4 : Int32) {o : ((Int32 × Int32) ⊕ ((Int32) ⊕ Int32))} {r : Option Value × mM} (hr : s210L4L9_37 μ p0 p1 p3 v2 v4 = some o) (hC : Sum.elim (fun s' : Int32 × Int32 => mGo mG (210, List.drop 9 mC210, [.ref p0, .int p1, .int s'.1, .int p3, .int s'.2], [], μ) r) (Sum.elim (fun x : Int32 => ∀ (w4 : Value) (hw4 : mNotL w4 = true), mGo mG (210, List.drop 39 mC210, [.ref p0, .int p1, .int x, .int p3, w4], [], μ) r) (fun y : Int32 => r = (some (.int y), μ))) o) : mGo mG (210, List.drop 37 mC210, [.ref p0, .int p1, .int v2, .int p3, .int v4], [], μ) r := by
  unfold s210L4L9_37 at hr
  refine mGo.steps 2 (c' := (210, List.drop 9 mC210, [.ref p0, .int p1, .int v2, .int p3, .int (v4 + 1)], [], μ)) rfl ?_
  obtain rfl := Option.some.inj hr
  exact hC
def s210L4L9_36 (μ : mM) (p0 : Nat) (p1 : Int32) (p3 : Int32) (v4 : Int32) (t0 : Int32) : Option ((Int32 × Int32) ⊕ ((Int32) ⊕ Int32)) :=
  s210L4L9_37 μ p0 p1 p3 t0 v4
set_option maxRecDepth 20000 in
theorem t210L4L9_36 (μ : mM) (p0 : Nat) (p1 : Int32) (p3 : Int32) (v4 : Int32) (t0 : Int32) (w2 : Value) (hw2 : mNotL w2 = true) {o : ((Int32 × Int32) ⊕ ((Int32) ⊕ Int32))} {r : Option Value × mM} (hr : s210L4L9_36 μ p0 p1 p3 v4 t0 = some o) (hC : Sum.elim (fun s' : Int32 × Int32 => mGo mG (210, List.drop 9 mC210, [.ref p0, .int p1, .int s'.1, .int p3, .int s'.2], [], μ) r) (Sum.elim (fun x : Int32 => ∀ (w4 : Value) (hw4 : mNotL w4 = true), mGo mG (210, List.drop 39 mC210, [.ref p0, .int p1, .int x, .int p3, w4], [], μ) r) (fun y : Int32 => r = (some (.int y), μ))) o) : mGo mG (210, List.drop 36 mC210, [.ref p0, .int p1, w2, .int p3, .int v4], [.int t0], μ) r := by
  unfold s210L4L9_36 at hr
  refine mGo.steps 1 (c' := (210, List.drop 37 mC210, [.ref p0, .int p1, .int t0, .int p3, .int v4], [], μ)) rfl ?_
  exact t210L4L9_37 μ p0 p1 p3 t0 v4 hr hC
def s210L4L9_33 (μ : mM) (p0 : Nat) (p1 : Int32) (p3 : Int32) (v4 : Int32) : Option ((Int32 × Int32) ⊕ ((Int32) ⊕ Int32)) :=
  s210L4L9_36 μ p0 p1 p3 v4 1
set_option maxRecDepth 20000 in
theorem t210L4L9_33 (μ : mM) (p0 : Nat) (p1 : Int32) (p3 : Int32) (v4 : Int32) (w2 : Value) (hw2 : mNotL w2 = true) {o : ((Int32 × Int32) ⊕ ((Int32) ⊕ Int32))} {r : Option Value × mM} (hr : s210L4L9_33 μ p0 p1 p3 v4 = some o) (hC : Sum.elim (fun s' : Int32 × Int32 => mGo mG (210, List.drop 9 mC210, [.ref p0, .int p1, .int s'.1, .int p3, .int s'.2], [], μ) r) (Sum.elim (fun x : Int32 => ∀ (w4 : Value) (hw4 : mNotL w4 = true), mGo mG (210, List.drop 39 mC210, [.ref p0, .int p1, .int x, .int p3, w4], [], μ) r) (fun y : Int32 => r = (some (.int y), μ))) o) : mGo mG (210, List.drop 33 mC210, [.ref p0, .int p1, w2, .int p3, .int v4], [], μ) r := by
  unfold s210L4L9_33 at hr
  refine mGo.steps 2 (c' := (210, List.drop 36 mC210, [.ref p0, .int p1, w2, .int p3, .int v4], [.int 1], μ)) rfl ?_
  exact t210L4L9_36 μ p0 p1 p3 v4 1 w2 hw2 hr hC
def s210L4L9 (μ : mM) (p0 : Nat) (p1 : Int32) (p3 : Int32) (s : Int32 × Int32) : Option ((Int32 × Int32) ⊕ ((Int32) ⊕ Int32)) :=
  if 2 ≤ s.2 then (some (.inr (.inl s.1))) else (if (mS μ p0).1 = 9 then (s162 μ p0 p3 p1 s.2).bind fun q2 => if q2 = 0 then (s210L4L9_37 μ p0 p1 p3 s.1 s.2) else (if ¬ s.1 = 0 then (s210L4L9_33 μ p0 p1 p3 s.2) else ((s159 μ p0 p3 2).bind fun q4 => (s164 μ p0 p1 q4 s.2).bind fun q6 => (s208 μ p0 p3 s.2 q6).bind fun q8 => if q8 ≤ 0 then (s210L4L9_36 μ p0 p1 p3 s.2 0) else (s210L4L9_33 μ p0 p1 p3 s.2))) else none)
set_option maxRecDepth 20000 in
theorem t210L4L9 (μ : mM) (p0 : Nat) (p1 : Int32) (p3 : Int32) {r : Option Value × mM} (s : Int32 × Int32) (o : ((Int32 × Int32) ⊕ ((Int32) ⊕ Int32))) (hr : s210L4L9 μ p0 p1 p3 s = some o) (hC : Sum.elim (fun s' : Int32 × Int32 => mGo mG (210, List.drop 9 mC210, [.ref p0, .int p1, .int s'.1, .int p3, .int s'.2], [], μ) r) (Sum.elim (fun x : Int32 => ∀ (w4 : Value) (hw4 : mNotL w4 = true), mGo mG (210, List.drop 39 mC210, [.ref p0, .int p1, .int x, .int p3, w4], [], μ) r) (fun y : Int32 => r = (some (.int y), μ))) o) : mGo mG (210, List.drop 9 mC210, [.ref p0, .int p1, .int s.1, .int p3, .int s.2], [], μ) r := by
  unfold s210L4L9 at hr
  refine mGo.steps 2 (c' := (210, List.drop 11 mC210, [.ref p0, .int p1, .int s.1, .int p3, .int s.2], [.int 2, .int s.2], μ)) rfl ?_
  rcases mIte hr with ⟨h13, hr⟩ | ⟨h13, hr⟩
  · refine gBrT (p := 2 ≤ s.2) (y := 210) (is := List.drop 12 mC210) (L := [.ref p0, .int p1, .int s.1, .int p3, .int s.2]) (st := []) (μ := μ) (t := 69) rfl h13 ?_
    obtain rfl := Option.some.inj hr
    exact hC (.int s.2) rfl
  · refine gBrF (p := 2 ≤ s.2) (y := 210) (is := List.drop 12 mC210) (L := [.ref p0, .int p1, .int s.1, .int p3, .int s.2]) (st := []) (μ := μ) (t := 69) rfl h13 ?_
    refine mGo.steps 4 (c' := (210, List.drop 16 mC210, [.ref p0, .int p1, .int s.1, .int p3, .int s.2], [.int s.2, .int p1, .int p3, .ref p0], μ)) rfl ?_
    obtain ⟨h1, hr⟩ := mIf hr
    obtain ⟨q2, h3, hr⟩ := mBi hr
    refine gCall (z := 162) (n := 3) (f := 0) (kind := 1) (a := p0) (As := [.int p3, .int p1, .int s.2]) (y := 210) (is := List.drop 17 mC210) (L := [.ref p0, .int p1, .int s.1, .int p3, .int s.2]) (rest := []) (μ := μ) rfl (by decide) (by decide) ⟨rfl, rfl⟩ rfl h1 (Nat.le_of_ble_eq_true rfl) (Nat.le_of_ble_eq_true rfl) (t162 h3) ?_
    rcases mIte hr with ⟨h12, hr⟩ | ⟨h12, hr⟩
    · refine gBrT (p := q2 = 0) (y := 210) (is := List.drop 18 mC210) (L := [.ref p0, .int p1, .int s.1, .int p3, .int s.2]) (st := []) (μ := μ) (t := 63) rfl h12 ?_
      exact t210L4L9_37 μ p0 p1 p3 s.1 s.2 hr hC
    · refine gBrF (p := q2 = 0) (y := 210) (is := List.drop 18 mC210) (L := [.ref p0, .int p1, .int s.1, .int p3, .int s.2]) (st := []) (μ := μ) (t := 63) rfl h12 ?_
      refine mGo.steps 1 (c' := (210, List.drop 19 mC210, [.ref p0, .int p1, .int s.1, .int p3, .int s.2], [.int s.1], μ)) rfl ?_
      rcases mIte hr with ⟨h11, hr⟩ | ⟨h11, hr⟩
      · refine gBrT (p := ¬ s.1 = 0) (y := 210) (is := List.drop 20 mC210) (L := [.ref p0, .int p1, .int s.1, .int p3, .int s.2]) (st := []) (μ := μ) (t := 57) rfl h11 ?_
        exact t210L4L9_33 μ p0 p1 p3 s.2 (.int s.1) rfl hr hC
      · refine gBrF (p := ¬ s.1 = 0) (y := 210) (is := List.drop 20 mC210) (L := [.ref p0, .int p1, .int s.1, .int p3, .int s.2]) (st := []) (μ := μ) (t := 57) rfl h11 ?_
        refine mGo.steps 8 (c' := (210, List.drop 28 mC210, [.ref p0, .int p1, .int s.1, .int p3, .int s.2], [.int 2, .int p3, .ref p0, .int p1, .ref p0, .int s.2, .int p3, .ref p0], μ)) rfl ?_
        obtain ⟨q4, h5, hr⟩ := mBi hr
        refine gCall (z := 159) (n := 2) (f := 0) (kind := 1) (a := p0) (As := [.int p3, .int 2]) (y := 210) (is := List.drop 29 mC210) (L := [.ref p0, .int p1, .int s.1, .int p3, .int s.2]) (rest := [.int p1, .ref p0, .int s.2, .int p3, .ref p0]) (μ := μ) rfl (by decide) (by decide) ⟨rfl, rfl⟩ rfl h1 (Nat.le_of_ble_eq_true rfl) (Nat.le_of_ble_eq_true rfl) (t159 h5) ?_
        refine mGo.steps 1 (c' := (210, List.drop 30 mC210, [.ref p0, .int p1, .int s.1, .int p3, .int s.2], [.int s.2, .int q4, .int p1, .ref p0, .int s.2, .int p3, .ref p0], μ)) rfl ?_
        obtain ⟨q6, h7, hr⟩ := mBi hr
        refine gCall (z := 164) (n := 3) (f := 0) (kind := 1) (a := p0) (As := [.int p1, .int q4, .int s.2]) (y := 210) (is := List.drop 31 mC210) (L := [.ref p0, .int p1, .int s.1, .int p3, .int s.2]) (rest := [.int s.2, .int p3, .ref p0]) (μ := μ) rfl (by decide) (by decide) ⟨rfl, rfl⟩ rfl h1 (Nat.le_of_ble_eq_true rfl) (Nat.le_of_ble_eq_true rfl) (t164 h7) ?_
        obtain ⟨q8, h9, hr⟩ := mBi hr
        refine gCall (z := 208) (n := 3) (f := 0) (kind := 1) (a := p0) (As := [.int p3, .int s.2, .int q6]) (y := 210) (is := List.drop 32 mC210) (L := [.ref p0, .int p1, .int s.1, .int p3, .int s.2]) (rest := []) (μ := μ) rfl (by decide) (by decide) ⟨rfl, rfl⟩ rfl h1 (Nat.le_of_ble_eq_true rfl) (Nat.le_of_ble_eq_true rfl) (t208 h9) ?_
        rcases mIte hr with ⟨h10, hr⟩ | ⟨h10, hr⟩
        · refine gBrT (p := q8 ≤ 0) (y := 210) (is := List.drop 33 mC210) (L := [.ref p0, .int p1, .int s.1, .int p3, .int s.2]) (st := []) (μ := μ) (t := 61) rfl h10 ?_
          refine mGo.steps 1 (c' := (210, List.drop 36 mC210, [.ref p0, .int p1, .int s.1, .int p3, .int s.2], [.int 0], μ)) rfl ?_
          exact t210L4L9_36 μ p0 p1 p3 s.2 0 (.int s.1) rfl hr hC
        · refine gBrF (p := q8 ≤ 0) (y := 210) (is := List.drop 33 mC210) (L := [.ref p0, .int p1, .int s.1, .int p3, .int s.2]) (st := []) (μ := μ) (t := 61) rfl h10 ?_
          exact t210L4L9_33 μ p0 p1 p3 s.2 (.int s.1) rfl hr hC
theorem t210L4L9l (μ : mM) (p0 : Nat) (p1 : Int32) (p3 : Int32) {r : Option Value × mM} (n : Nat) (s : Int32 × Int32) (o : (Int32) ⊕ Int32) (hr : mLoop (s210L4L9 μ p0 p1 p3) n s = some o) (hC : Sum.elim (fun x : Int32 => ∀ (w4 : Value) (hw4 : mNotL w4 = true), mGo mG (210, List.drop 39 mC210, [.ref p0, .int p1, .int x, .int p3, w4], [], μ) r) (fun y : Int32 => r = (some (.int y), μ)) o) : mGo mG (210, List.drop 9 mC210, [.ref p0, .int p1, .int s.1, .int p3, .int s.2], [], μ) r :=
  mLoop_go (Hd := (fun s' : Int32 × Int32 => mGo mG (210, List.drop 9 mC210, [.ref p0, .int p1, .int s'.1, .int p3, .int s'.2], [], μ) r)) (fun s o hb hC => t210L4L9 μ p0 p1 p3 s o hb hC) n s o hr hC
def s210L4 (μ : mM) (p0 : Nat) (p1 : Int32) (s : Int32 × Int32) : Option ((Int32 × Int32) ⊕ ((Int32) ⊕ Int32)) :=
  if 10 ≤ s.2 then (some (.inr (.inl s.1))) else ((mLoop (s210L4L9 μ p0 p1 s.2) 1000 (s.1, 0)).bind fun o14 => Sum.elim (fun x15 => some (.inl (x15, s.2 + 1))) (fun y16 => some (.inr (.inr y16))) o14)
set_option maxRecDepth 20000 in
theorem t210L4 (μ : mM) (p0 : Nat) (p1 : Int32) {r : Option Value × mM} (s : Int32 × Int32) (o : ((Int32 × Int32) ⊕ ((Int32) ⊕ Int32))) (hr : s210L4 μ p0 p1 s = some o) (hC : Sum.elim (fun s' : Int32 × Int32 => ∀ (w4 : Value) (hw4 : mNotL w4 = true), mGo mG (210, List.drop 4 mC210, [.ref p0, .int p1, .int s'.1, .int s'.2, w4], [], μ) r) (Sum.elim (fun x : Int32 => ∀ (w0 : Value) (hw0 : mNotL w0 = true) (w1 : Value) (hw1 : mNotL w1 = true) (w3 : Value) (hw3 : mNotL w3 = true) (w4 : Value) (hw4 : mNotL w4 = true), mGo mG (210, List.drop 41 mC210, [w0, w1, .int x, w3, w4], [], μ) r) (fun y : Int32 => r = (some (.int y), μ))) o) : ∀ (w4 : Value) (hw4 : mNotL w4 = true), mGo mG (210, List.drop 4 mC210, [.ref p0, .int p1, .int s.1, .int s.2, w4], [], μ) r := by
  intro w4 hw4
  unfold s210L4 at hr
  refine mGo.steps 2 (c' := (210, List.drop 6 mC210, [.ref p0, .int p1, .int s.1, .int s.2, w4], [.int 10, .int s.2], μ)) rfl ?_
  rcases mIte hr with ⟨h18, hr⟩ | ⟨h18, hr⟩
  · refine gBrT (p := 10 ≤ s.2) (y := 210) (is := List.drop 7 mC210) (L := [.ref p0, .int p1, .int s.1, .int s.2, w4]) (st := []) (μ := μ) (t := 75) rfl h18 ?_
    obtain rfl := Option.some.inj hr
    exact hC (.ref p0) rfl (.int p1) rfl (.int s.2) rfl w4 hw4
  · refine gBrF (p := 10 ≤ s.2) (y := 210) (is := List.drop 7 mC210) (L := [.ref p0, .int p1, .int s.1, .int s.2, w4]) (st := []) (μ := μ) (t := 75) rfl h18 ?_
    refine mGo.steps 2 (c' := (210, List.drop 9 mC210, [.ref p0, .int p1, .int s.1, .int s.2, .int 0], [], μ)) rfl ?_
    obtain ⟨o14, h17, hr⟩ := mBi hr
    refine t210L4L9l μ p0 p1 s.2 1000 (s.1, 0) o14 h17 ?_ 
    cases o14 with
    | inl x15 =>
      show ∀ (w4 : Value) (hw4 : mNotL w4 = true), mGo mG (210, List.drop 39 mC210, [.ref p0, .int p1, .int x15, .int s.2, w4], [], μ) r
      intro w4 hw4
      replace hr : (_) = some _ := hr
      refine mGo.steps 2 (c' := (210, List.drop 4 mC210, [.ref p0, .int p1, .int x15, .int (s.2 + 1), w4], [], μ)) rfl ?_
      obtain rfl := Option.some.inj hr
      exact hC w4 hw4
    | inr y16 =>
      obtain rfl := Option.some.inj hr
      exact hC
theorem t210L4l (μ : mM) (p0 : Nat) (p1 : Int32) {r : Option Value × mM} (n : Nat) (s : Int32 × Int32) (o : (Int32) ⊕ Int32) (hr : mLoop (s210L4 μ p0 p1) n s = some o) (hC : Sum.elim (fun x : Int32 => ∀ (w0 : Value) (hw0 : mNotL w0 = true) (w1 : Value) (hw1 : mNotL w1 = true) (w3 : Value) (hw3 : mNotL w3 = true) (w4 : Value) (hw4 : mNotL w4 = true), mGo mG (210, List.drop 41 mC210, [w0, w1, .int x, w3, w4], [], μ) r) (fun y : Int32 => r = (some (.int y), μ)) o) : ∀ (w4 : Value) (hw4 : mNotL w4 = true), mGo mG (210, List.drop 4 mC210, [.ref p0, .int p1, .int s.1, .int s.2, w4], [], μ) r :=
  mLoop_go (Hd := (fun s' : Int32 × Int32 => ∀ (w4 : Value) (hw4 : mNotL w4 = true), mGo mG (210, List.drop 4 mC210, [.ref p0, .int p1, .int s'.1, .int s'.2, w4], [], μ) r)) (fun s o hb hC => t210L4 μ p0 p1 s o hb hC) n s o hr hC
def s210 (μ : mM) (a0 : Nat) (a1 : Int32) : Option Int32 :=
  (mLoop (s210L4 μ a0 a1) 1000 (0, 0)).bind fun o19 => Sum.elim (fun x20 => if x20 = 0 ∨ x20 = 1 then some x20 else none) (fun y21 => some y21) o19
set_option maxRecDepth 20000 in
theorem t210 {μ : mM} {a0 : Nat} {a1 : Int32} {o : Int32} (hr : s210 μ a0 a1 = some o) : mEv mG 210 [.ref a0, .int a1] μ (some (.int o)) (μ) := by
  obtain ⟨r, hC⟩ : ∃ r : Option Value × mM, r = (some (.int o), μ) := ⟨_, rfl⟩
  show mGo mG (210, List.drop 0 mC210, [.ref a0, .int a1, .retAddr 0, .retAddr 0, .retAddr 0], [], μ) (some (.int o), μ)
  rw [← hC]
  unfold s210 at hr
  refine mGo.steps 4 (c' := (210, List.drop 4 mC210, [.ref a0, .int a1, .int 0, .int 0, .retAddr 0], [], μ)) rfl ?_
  obtain ⟨o19, h22, hr⟩ := mBi hr
  refine t210L4l μ a0 a1 1000 (0, 0) o19 h22 ?_ (.retAddr 0) rfl
  cases o19 with
  | inl x20 =>
    show ∀ (w0 : Value) (hw0 : mNotL w0 = true) (w1 : Value) (hw1 : mNotL w1 = true) (w3 : Value) (hw3 : mNotL w3 = true) (w4 : Value) (hw4 : mNotL w4 = true), mGo mG (210, List.drop 41 mC210, [w0, w1, .int x20, w3, w4], [], μ) r
    intro w0 hw0 w1 hw1 w3 hw3 w4 hw4
    replace hr : (_) = some _ := hr
    refine mGo.steps 1 (c' := (210, List.drop 42 mC210, [w0, w1, .int x20, w3, w4], [.int x20], μ)) rfl ?_
    obtain ⟨h23, hr⟩ := mIf hr
    obtain rfl := Option.some.inj hr
    rw [show r = _ from hC]
    exact gZret rfl h23
  | inr y21 =>
    obtain rfl := Option.some.inj hr
    exact hC

/-! 211: TunnelFabricModel.stirs()V -/
def s211L2_66 (p0 : Nat) (μ : mM) (v1 : Int32) : Option ((Int32 × mM) ⊕ ((mM) ⊕ mM)) :=
  some (.inl (v1 + 1, μ))
set_option maxRecDepth 20000 in
theorem t211L2_66 (p0 : Nat) (μ : mM) (v1 : Int32) {o : ((Int32 × mM) ⊕ ((mM) ⊕ mM))} {r : Option Value × mM} (hr : s211L2_66 p0 μ v1 = some o) (hC : Sum.elim (fun s' : Int32 × mM => mGo mG (211, List.drop 2 mC211, [.ref p0, .int s'.1], [], s'.2) r) (Sum.elim (fun x : mM => ∀ (w0 : Value) (hw0 : mNotL w0 = true) (w1 : Value) (hw1 : mNotL w1 = true), mGo mG (211, List.drop 68 mC211, [w0, w1], [], x) r) (fun y : mM => r = (none, y))) o) : mGo mG (211, List.drop 66 mC211, [.ref p0, .int v1], [], μ) r := by
  unfold s211L2_66 at hr
  refine mGo.steps 2 (c' := (211, List.drop 2 mC211, [.ref p0, .int (v1 + 1)], [], μ)) rfl ?_
  obtain rfl := Option.some.inj hr
  exact hC
def s211L2_40 (p0 : Nat) (μ : mM) (v1 : Int32) : Option ((Int32 × mM) ⊕ ((mM) ⊕ mM)) :=
  if (mS μ p0).1 = 9 then (s148 μ p0 v1 0).bind fun q5 => if ¬ q5 = 1 then (s211L2_66 p0 μ v1) else ((s148 μ p0 v1 6).bind fun q7 => if ¬ q7 = 2 then (s211L2_66 p0 μ v1) else ((s210 μ p0 v1).bind fun q9 => if q9 = 0 then (s211L2_66 p0 μ v1) else ((s149 μ p0 v1 6 3).bind fun q11 => if (mS q11 p0).1 = 9 then (s149 q11 p0 v1 8 2).bind fun q14 => s211L2_66 p0 q14 v1 else none))) else none
set_option maxRecDepth 20000 in
theorem t211L2_40 (p0 : Nat) (μ : mM) (v1 : Int32) {o : ((Int32 × mM) ⊕ ((mM) ⊕ mM))} {r : Option Value × mM} (hr : s211L2_40 p0 μ v1 = some o) (hC : Sum.elim (fun s' : Int32 × mM => mGo mG (211, List.drop 2 mC211, [.ref p0, .int s'.1], [], s'.2) r) (Sum.elim (fun x : mM => ∀ (w0 : Value) (hw0 : mNotL w0 = true) (w1 : Value) (hw1 : mNotL w1 = true), mGo mG (211, List.drop 68 mC211, [w0, w1], [], x) r) (fun y : mM => r = (none, y))) o) : mGo mG (211, List.drop 40 mC211, [.ref p0, .int v1], [], μ) r := by
  unfold s211L2_40 at hr
  refine mGo.steps 3 (c' := (211, List.drop 43 mC211, [.ref p0, .int v1], [.int 0, .int v1, .ref p0], μ)) rfl ?_
  obtain ⟨h4, hr⟩ := mIf hr
  obtain ⟨q5, h6, hr⟩ := mBi hr
  refine gCall (z := 148) (n := 2) (f := 0) (kind := 1) (a := p0) (As := [.int v1, .int 0]) (y := 211) (is := List.drop 44 mC211) (L := [.ref p0, .int v1]) (rest := []) (μ := μ) rfl (by decide) (by decide) ⟨rfl, rfl⟩ rfl h4 (Nat.le_of_ble_eq_true rfl) (Nat.le_of_ble_eq_true rfl) (t148 h6) ?_
  refine mGo.steps 1 (c' := (211, List.drop 45 mC211, [.ref p0, .int v1], [.int 1, .int q5], μ)) rfl ?_
  rcases mIte hr with ⟨h18, hr⟩ | ⟨h18, hr⟩
  · refine gBrT (p := ¬ q5 = 1) (y := 211) (is := List.drop 46 mC211) (L := [.ref p0, .int v1]) (st := []) (μ := μ) (t := 115) rfl h18 ?_
    exact t211L2_66 p0 μ v1 hr hC
  · refine gBrF (p := ¬ q5 = 1) (y := 211) (is := List.drop 46 mC211) (L := [.ref p0, .int v1]) (st := []) (μ := μ) (t := 115) rfl h18 ?_
    refine mGo.steps 3 (c' := (211, List.drop 49 mC211, [.ref p0, .int v1], [.int 6, .int v1, .ref p0], μ)) rfl ?_
    obtain ⟨q7, h8, hr⟩ := mBi hr
    refine gCall (z := 148) (n := 2) (f := 0) (kind := 1) (a := p0) (As := [.int v1, .int 6]) (y := 211) (is := List.drop 50 mC211) (L := [.ref p0, .int v1]) (rest := []) (μ := μ) rfl (by decide) (by decide) ⟨rfl, rfl⟩ rfl h4 (Nat.le_of_ble_eq_true rfl) (Nat.le_of_ble_eq_true rfl) (t148 h8) ?_
    refine mGo.steps 1 (c' := (211, List.drop 51 mC211, [.ref p0, .int v1], [.int 2, .int q7], μ)) rfl ?_
    rcases mIte hr with ⟨h17, hr⟩ | ⟨h17, hr⟩
    · refine gBrT (p := ¬ q7 = 2) (y := 211) (is := List.drop 52 mC211) (L := [.ref p0, .int v1]) (st := []) (μ := μ) (t := 115) rfl h17 ?_
      exact t211L2_66 p0 μ v1 hr hC
    · refine gBrF (p := ¬ q7 = 2) (y := 211) (is := List.drop 52 mC211) (L := [.ref p0, .int v1]) (st := []) (μ := μ) (t := 115) rfl h17 ?_
      refine mGo.steps 2 (c' := (211, List.drop 54 mC211, [.ref p0, .int v1], [.int v1, .ref p0], μ)) rfl ?_
      obtain ⟨q9, h10, hr⟩ := mBi hr
      refine gCall (z := 210) (n := 1) (f := 0) (kind := 1) (a := p0) (As := [.int v1]) (y := 211) (is := List.drop 55 mC211) (L := [.ref p0, .int v1]) (rest := []) (μ := μ) rfl (by decide) (by decide) ⟨rfl, rfl⟩ rfl h4 (Nat.le_of_ble_eq_true rfl) (Nat.le_of_ble_eq_true rfl) (t210 h10) ?_
      rcases mIte hr with ⟨h16, hr⟩ | ⟨h16, hr⟩
      · refine gBrT (p := q9 = 0) (y := 211) (is := List.drop 56 mC211) (L := [.ref p0, .int v1]) (st := []) (μ := μ) (t := 115) rfl h16 ?_
        exact t211L2_66 p0 μ v1 hr hC
      · refine gBrF (p := q9 = 0) (y := 211) (is := List.drop 56 mC211) (L := [.ref p0, .int v1]) (st := []) (μ := μ) (t := 115) rfl h16 ?_
        refine mGo.steps 4 (c' := (211, List.drop 60 mC211, [.ref p0, .int v1], [.int 3, .int 6, .int v1, .ref p0], μ)) rfl ?_
        obtain ⟨q11, h12, hr⟩ := mBi hr
        refine gCall (z := 149) (n := 3) (f := 0) (kind := 1) (a := p0) (As := [.int v1, .int 6, .int 3]) (y := 211) (is := List.drop 61 mC211) (L := [.ref p0, .int v1]) (rest := []) (μ := μ) rfl (by decide) (by decide) ⟨rfl, rfl⟩ rfl h4 (Nat.le_of_ble_eq_true rfl) (Nat.le_of_ble_eq_true rfl) (t149 h12) ?_
        refine mGo.steps 4 (c' := (211, List.drop 65 mC211, [.ref p0, .int v1], [.int 2, .int 8, .int v1, .ref p0], q11)) rfl ?_
        obtain ⟨h13, hr⟩ := mIf hr
        obtain ⟨q14, h15, hr⟩ := mBi hr
        refine gCall (z := 149) (n := 3) (f := 0) (kind := 1) (a := p0) (As := [.int v1, .int 8, .int 2]) (y := 211) (is := List.drop 66 mC211) (L := [.ref p0, .int v1]) (rest := []) (μ := q11) rfl (by decide) (by decide) ⟨rfl, rfl⟩ rfl h13 (Nat.le_of_ble_eq_true rfl) (Nat.le_of_ble_eq_true rfl) (t149 h15) ?_
        exact t211L2_66 p0 q14 v1 hr hC
def s211L2_38 (p0 : Nat) (μ : mM) (v1 : Int32) (t0 : Int32) (t1 : Int32) (t2 : Int32) (t3 : Nat) : Option ((Int32 × mM) ⊕ ((mM) ⊕ mM)) :=
  if (mS μ t3).1 = 9 then (s149 μ t3 t2 t1 t0).bind fun q29 => s211L2_66 p0 q29 v1 else none
set_option maxRecDepth 20000 in
theorem t211L2_38 (p0 : Nat) (μ : mM) (v1 : Int32) (t0 : Int32) (t1 : Int32) (t2 : Int32) (t3 : Nat) {o : ((Int32 × mM) ⊕ ((mM) ⊕ mM))} {r : Option Value × mM} (hr : s211L2_38 p0 μ v1 t0 t1 t2 t3 = some o) (hC : Sum.elim (fun s' : Int32 × mM => mGo mG (211, List.drop 2 mC211, [.ref p0, .int s'.1], [], s'.2) r) (Sum.elim (fun x : mM => ∀ (w0 : Value) (hw0 : mNotL w0 = true) (w1 : Value) (hw1 : mNotL w1 = true), mGo mG (211, List.drop 68 mC211, [w0, w1], [], x) r) (fun y : mM => r = (none, y))) o) : mGo mG (211, List.drop 38 mC211, [.ref p0, .int v1], [.int t0, .int t1, .int t2, .ref t3], μ) r := by
  unfold s211L2_38 at hr
  obtain ⟨h28, hr⟩ := mIf hr
  obtain ⟨q29, h30, hr⟩ := mBi hr
  refine gCall (z := 149) (n := 3) (f := 0) (kind := 1) (a := t3) (As := [.int t2, .int t1, .int t0]) (y := 211) (is := List.drop 39 mC211) (L := [.ref p0, .int v1]) (rest := []) (μ := μ) rfl (by decide) (by decide) ⟨rfl, rfl⟩ rfl h28 (Nat.le_of_ble_eq_true rfl) (Nat.le_of_ble_eq_true rfl) (t149 h30) ?_
  refine mGo.steps 1 (c' := (211, List.drop 66 mC211, [.ref p0, .int v1], [], q29)) rfl ?_
  exact t211L2_66 p0 q29 v1 hr hC
def s211L2 (p0 : Nat) (s : Int32 × mM) : Option ((Int32 × mM) ⊕ ((mM) ⊕ mM)) :=
  if 8 ≤ s.1 then (some (.inr (.inl s.2))) else (if (mS s.2 p0).1 = 9 then (s148 s.2 p0 s.1 0).bind fun q2 => if ¬ q2 = 1 then (s211L2_40 p0 s.2 s.1) else ((s148 s.2 p0 s.1 6).bind fun q19 => if ¬ q19 = 3 then (s211L2_40 p0 s.2 s.1) else ((s148 s.2 p0 s.1 8).bind fun q21 => (s149 s.2 p0 s.1 8 (q21 - 1)).bind fun q23 => if (mS q23 p0).1 = 9 then (s148 q23 p0 s.1 8).bind fun q26 => if ¬ q26 = 0 then (s211L2_38 p0 q23 s.1 3 6 s.1 p0) else (s211L2_38 p0 q23 s.1 0 6 s.1 p0) else none)) else none)
set_option maxRecDepth 20000 in
theorem t211L2 (p0 : Nat) {r : Option Value × mM} (s : Int32 × mM) (o : ((Int32 × mM) ⊕ ((mM) ⊕ mM))) (hr : s211L2 p0 s = some o) (hC : Sum.elim (fun s' : Int32 × mM => mGo mG (211, List.drop 2 mC211, [.ref p0, .int s'.1], [], s'.2) r) (Sum.elim (fun x : mM => ∀ (w0 : Value) (hw0 : mNotL w0 = true) (w1 : Value) (hw1 : mNotL w1 = true), mGo mG (211, List.drop 68 mC211, [w0, w1], [], x) r) (fun y : mM => r = (none, y))) o) : mGo mG (211, List.drop 2 mC211, [.ref p0, .int s.1], [], s.2) r := by
  unfold s211L2 at hr
  refine mGo.steps 2 (c' := (211, List.drop 4 mC211, [.ref p0, .int s.1], [.int 8, .int s.1], s.2)) rfl ?_
  rcases mIte hr with ⟨h34, hr⟩ | ⟨h34, hr⟩
  · refine gBrT (p := 8 ≤ s.1) (y := 211) (is := List.drop 5 mC211) (L := [.ref p0, .int s.1]) (st := []) (μ := s.2) (t := 121) rfl h34 ?_
    obtain rfl := Option.some.inj hr
    exact hC (.ref p0) rfl (.int s.1) rfl
  · refine gBrF (p := 8 ≤ s.1) (y := 211) (is := List.drop 5 mC211) (L := [.ref p0, .int s.1]) (st := []) (μ := s.2) (t := 121) rfl h34 ?_
    refine mGo.steps 3 (c' := (211, List.drop 8 mC211, [.ref p0, .int s.1], [.int 0, .int s.1, .ref p0], s.2)) rfl ?_
    obtain ⟨h1, hr⟩ := mIf hr
    obtain ⟨q2, h3, hr⟩ := mBi hr
    refine gCall (z := 148) (n := 2) (f := 0) (kind := 1) (a := p0) (As := [.int s.1, .int 0]) (y := 211) (is := List.drop 9 mC211) (L := [.ref p0, .int s.1]) (rest := []) (μ := s.2) rfl (by decide) (by decide) ⟨rfl, rfl⟩ rfl h1 (Nat.le_of_ble_eq_true rfl) (Nat.le_of_ble_eq_true rfl) (t148 h3) ?_
    refine mGo.steps 1 (c' := (211, List.drop 10 mC211, [.ref p0, .int s.1], [.int 1, .int q2], s.2)) rfl ?_
    rcases mIte hr with ⟨h33, hr⟩ | ⟨h33, hr⟩
    · refine gBrT (p := ¬ q2 = 1) (y := 211) (is := List.drop 11 mC211) (L := [.ref p0, .int s.1]) (st := []) (μ := s.2) (t := 70) rfl h33 ?_
      exact t211L2_40 p0 s.2 s.1 hr hC
    · refine gBrF (p := ¬ q2 = 1) (y := 211) (is := List.drop 11 mC211) (L := [.ref p0, .int s.1]) (st := []) (μ := s.2) (t := 70) rfl h33 ?_
      refine mGo.steps 3 (c' := (211, List.drop 14 mC211, [.ref p0, .int s.1], [.int 6, .int s.1, .ref p0], s.2)) rfl ?_
      obtain ⟨q19, h20, hr⟩ := mBi hr
      refine gCall (z := 148) (n := 2) (f := 0) (kind := 1) (a := p0) (As := [.int s.1, .int 6]) (y := 211) (is := List.drop 15 mC211) (L := [.ref p0, .int s.1]) (rest := []) (μ := s.2) rfl (by decide) (by decide) ⟨rfl, rfl⟩ rfl h1 (Nat.le_of_ble_eq_true rfl) (Nat.le_of_ble_eq_true rfl) (t148 h20) ?_
      refine mGo.steps 1 (c' := (211, List.drop 16 mC211, [.ref p0, .int s.1], [.int 3, .int q19], s.2)) rfl ?_
      rcases mIte hr with ⟨h32, hr⟩ | ⟨h32, hr⟩
      · refine gBrT (p := ¬ q19 = 3) (y := 211) (is := List.drop 17 mC211) (L := [.ref p0, .int s.1]) (st := []) (μ := s.2) (t := 70) rfl h32 ?_
        exact t211L2_40 p0 s.2 s.1 hr hC
      · refine gBrF (p := ¬ q19 = 3) (y := 211) (is := List.drop 17 mC211) (L := [.ref p0, .int s.1]) (st := []) (μ := s.2) (t := 70) rfl h32 ?_
        refine mGo.steps 6 (c' := (211, List.drop 23 mC211, [.ref p0, .int s.1], [.int 8, .int s.1, .ref p0, .int 8, .int s.1, .ref p0], s.2)) rfl ?_
        obtain ⟨q21, h22, hr⟩ := mBi hr
        refine gCall (z := 148) (n := 2) (f := 0) (kind := 1) (a := p0) (As := [.int s.1, .int 8]) (y := 211) (is := List.drop 24 mC211) (L := [.ref p0, .int s.1]) (rest := [.int 8, .int s.1, .ref p0]) (μ := s.2) rfl (by decide) (by decide) ⟨rfl, rfl⟩ rfl h1 (Nat.le_of_ble_eq_true rfl) (Nat.le_of_ble_eq_true rfl) (t148 h22) ?_
        refine mGo.steps 2 (c' := (211, List.drop 26 mC211, [.ref p0, .int s.1], [.int (q21 - 1), .int 8, .int s.1, .ref p0], s.2)) rfl ?_
        obtain ⟨q23, h24, hr⟩ := mBi hr
        refine gCall (z := 149) (n := 3) (f := 0) (kind := 1) (a := p0) (As := [.int s.1, .int 8, .int (q21 - 1)]) (y := 211) (is := List.drop 27 mC211) (L := [.ref p0, .int s.1]) (rest := []) (μ := s.2) rfl (by decide) (by decide) ⟨rfl, rfl⟩ rfl h1 (Nat.le_of_ble_eq_true rfl) (Nat.le_of_ble_eq_true rfl) (t149 h24) ?_
        refine mGo.steps 6 (c' := (211, List.drop 33 mC211, [.ref p0, .int s.1], [.int 8, .int s.1, .ref p0, .int 6, .int s.1, .ref p0], q23)) rfl ?_
        obtain ⟨h25, hr⟩ := mIf hr
        obtain ⟨q26, h27, hr⟩ := mBi hr
        refine gCall (z := 148) (n := 2) (f := 0) (kind := 1) (a := p0) (As := [.int s.1, .int 8]) (y := 211) (is := List.drop 34 mC211) (L := [.ref p0, .int s.1]) (rest := [.int 6, .int s.1, .ref p0]) (μ := q23) rfl (by decide) (by decide) ⟨rfl, rfl⟩ rfl h25 (Nat.le_of_ble_eq_true rfl) (Nat.le_of_ble_eq_true rfl) (t148 h27) ?_
        rcases mIte hr with ⟨h31, hr⟩ | ⟨h31, hr⟩
        · refine gBrT (p := ¬ q26 = 0) (y := 211) (is := List.drop 35 mC211) (L := [.ref p0, .int s.1]) (st := [.int 6, .int s.1, .ref p0]) (μ := q23) (t := 63) rfl h31 ?_
          refine mGo.steps 1 (c' := (211, List.drop 38 mC211, [.ref p0, .int s.1], [.int 3, .int 6, .int s.1, .ref p0], q23)) rfl ?_
          exact t211L2_38 p0 q23 s.1 3 6 s.1 p0 hr hC
        · refine gBrF (p := ¬ q26 = 0) (y := 211) (is := List.drop 35 mC211) (L := [.ref p0, .int s.1]) (st := [.int 6, .int s.1, .ref p0]) (μ := q23) (t := 63) rfl h31 ?_
          refine mGo.steps 2 (c' := (211, List.drop 38 mC211, [.ref p0, .int s.1], [.int 0, .int 6, .int s.1, .ref p0], q23)) rfl ?_
          exact t211L2_38 p0 q23 s.1 0 6 s.1 p0 hr hC
theorem t211L2l (p0 : Nat) {r : Option Value × mM} (n : Nat) (s : Int32 × mM) (o : (mM) ⊕ mM) (hr : mLoop (s211L2 p0) n s = some o) (hC : Sum.elim (fun x : mM => ∀ (w0 : Value) (hw0 : mNotL w0 = true) (w1 : Value) (hw1 : mNotL w1 = true), mGo mG (211, List.drop 68 mC211, [w0, w1], [], x) r) (fun y : mM => r = (none, y)) o) : mGo mG (211, List.drop 2 mC211, [.ref p0, .int s.1], [], s.2) r :=
  mLoop_go (Hd := (fun s' : Int32 × mM => mGo mG (211, List.drop 2 mC211, [.ref p0, .int s'.1], [], s'.2) r)) (fun s o hb hC => t211L2 p0 s o hb hC) n s o hr hC
def s211 (μ : mM) (a0 : Nat) : Option mM :=
  (mLoop (s211L2 a0) 1000 (1, μ)).bind fun o35 => Sum.elim (fun x36 => some x36) (fun y37 => some y37) o35
set_option maxRecDepth 20000 in
theorem t211 {μ : mM} {a0 : Nat} {o : mM} (hr : s211 μ a0 = some o) : mEv mG 211 [.ref a0] μ (none) (o) := by
  obtain ⟨r, hC⟩ : ∃ r : Option Value × mM, r = (none, o) := ⟨_, rfl⟩
  show mGo mG (211, List.drop 0 mC211, [.ref a0, .retAddr 0], [], μ) (none, o)
  rw [← hC]
  unfold s211 at hr
  refine mGo.steps 2 (c' := (211, List.drop 2 mC211, [.ref a0, .int 1], [], μ)) rfl ?_
  obtain ⟨o35, h38, hr⟩ := mBi hr
  refine t211L2l a0 1000 (1, μ) o35 h38 ?_ 
  cases o35 with
  | inl x36 =>
    show ∀ (w0 : Value) (hw0 : mNotL w0 = true) (w1 : Value) (hw1 : mNotL w1 = true), mGo mG (211, List.drop 68 mC211, [w0, w1], [], x36) r
    intro w0 hw0 w1 hw1
    replace hr : (_) = some _ := hr
    obtain rfl := Option.some.inj hr
    rw [show r = _ from hC]
    exact gVret rfl
  | inr y37 =>
    obtain rfl := Option.some.inj hr
    exact hC

/-! 212: TunnelFabricModel.sends(IIII)I -/
def s212 (μ : mM) (a0 : Nat) (a1 : Int32) (a2 : Int32) (a3 : Int32) (a4 : Int32) : Option (Int32 × mM) :=
  if (mS μ a0).1 = 9 then (s159 μ a0 a1 2).bind fun q2 => (s164 μ a0 a2 q2 a3).bind fun q4 => (s209 μ a0 a1 a3 q4).bind fun q6 => (s145 μ q6 a4).bind fun q8 => if (mS μ (mP μ a0 14)).1 = 10 ∧ mInb (((8 * a1) + (4 * a3)) + q4) (mS μ (mP μ a0 14)).2 then (some (mUI μ (mP μ a0 14) (Int32.toNatClampNeg (((8 * a1) + (4 * a3)) + q4)) ((mI μ (mP μ a0 14) (Int32.toNatClampNeg (((8 * a1) + (4 * a3)) + q4))) + q8))).bind fun μ11 => if (mS μ11 (mP μ11 a0 15)).1 = 10 ∧ mInb ((2 * a2) + a3) (mS μ11 (mP μ11 a0 15)).2 then (some (mUI μ11 (mP μ11 a0 15) (Int32.toNatClampNeg ((2 * a2) + a3)) ((mI μ11 (mP μ11 a0 15) (Int32.toNatClampNeg ((2 * a2) + a3))) + q8))).bind fun μ13 => some (q8, μ13) else none else none else none
set_option maxRecDepth 20000 in
theorem t212 {μ : mM} {a0 : Nat} {a1 : Int32} {a2 : Int32} {a3 : Int32} {a4 : Int32} {o : (Int32 × mM)} (hr : s212 μ a0 a1 a2 a3 a4 = some o) : mEv mG 212 [.ref a0, .int a1, .int a2, .int a3, .int a4] μ (some (.int o.1)) (o.2) := by
  obtain ⟨r, hC⟩ : ∃ r : Option Value × mM, r = (some (.int o.1), o.2) := ⟨_, rfl⟩
  show mGo mG (212, List.drop 0 mC212, [.ref a0, .int a1, .int a2, .int a3, .int a4, .retAddr 0, .retAddr 0], [], μ) (some (.int o.1), o.2)
  rw [← hC]
  unfold s212 at hr
  refine mGo.steps 5 (c' := (212, List.drop 5 mC212, [.ref a0, .int a1, .int a2, .int a3, .int a4, .retAddr 0, .retAddr 0], [.int 2, .int a1, .ref a0, .int a2, .ref a0], μ)) rfl ?_
  obtain ⟨h1, hr⟩ := mIf hr
  obtain ⟨q2, h3, hr⟩ := mBi hr
  refine gCall (z := 159) (n := 2) (f := 0) (kind := 1) (a := a0) (As := [.int a1, .int 2]) (y := 212) (is := List.drop 6 mC212) (L := [.ref a0, .int a1, .int a2, .int a3, .int a4, .retAddr 0, .retAddr 0]) (rest := [.int a2, .ref a0]) (μ := μ) rfl (by decide) (by decide) ⟨rfl, rfl⟩ rfl h1 (Nat.le_of_ble_eq_true rfl) (Nat.le_of_ble_eq_true rfl) (t159 h3) ?_
  refine mGo.steps 1 (c' := (212, List.drop 7 mC212, [.ref a0, .int a1, .int a2, .int a3, .int a4, .retAddr 0, .retAddr 0], [.int a3, .int q2, .int a2, .ref a0], μ)) rfl ?_
  obtain ⟨q4, h5, hr⟩ := mBi hr
  refine gCall (z := 164) (n := 3) (f := 0) (kind := 1) (a := a0) (As := [.int a2, .int q2, .int a3]) (y := 212) (is := List.drop 8 mC212) (L := [.ref a0, .int a1, .int a2, .int a3, .int a4, .retAddr 0, .retAddr 0]) (rest := []) (μ := μ) rfl (by decide) (by decide) ⟨rfl, rfl⟩ rfl h1 (Nat.le_of_ble_eq_true rfl) (Nat.le_of_ble_eq_true rfl) (t164 h5) ?_
  refine mGo.steps 5 (c' := (212, List.drop 13 mC212, [.ref a0, .int a1, .int a2, .int a3, .int a4, .int q4, .retAddr 0], [.int q4, .int a3, .int a1, .ref a0], μ)) rfl ?_
  obtain ⟨q6, h7, hr⟩ := mBi hr
  refine gCall (z := 209) (n := 3) (f := 0) (kind := 1) (a := a0) (As := [.int a1, .int a3, .int q4]) (y := 212) (is := List.drop 14 mC212) (L := [.ref a0, .int a1, .int a2, .int a3, .int a4, .int q4, .retAddr 0]) (rest := []) (μ := μ) rfl (by decide) (by decide) ⟨rfl, rfl⟩ rfl h1 (Nat.le_of_ble_eq_true rfl) (Nat.le_of_ble_eq_true rfl) (t209 h7) ?_
  refine mGo.steps 1 (c' := (212, List.drop 15 mC212, [.ref a0, .int a1, .int a2, .int a3, .int a4, .int q4, .retAddr 0], [.int a4, .int q6], μ)) rfl ?_
  obtain ⟨q8, h9, hr⟩ := mBi hr
  refine mGo.call (z := 145) (as := [.int q6, .int a4]) (y := 212) (is := List.drop 16 mC212) (L := [.ref a0, .int a1, .int a2, .int a3, .int a4, .int q4, .retAddr 0]) (st := []) (μ := μ) rfl (t145 h9) ?_
  refine mGo.steps 2 (c' := (212, List.drop 18 mC212, [.ref a0, .int a1, .int a2, .int a3, .int a4, .int q4, .int q8], [.ref a0], μ)) rfl ?_
  refine gGet (is := List.drop 19 mC212) (v := .ref (mP μ a0 14)) h1 rfl ?_
  refine mGo.steps 10 (c' := (212, List.drop 29 mC212, [.ref a0, .int a1, .int a2, .int a3, .int a4, .int q4, .int q8], [.int (((8 * a1) + (4 * a3)) + q4), .ref (mP μ a0 14), .int (((8 * a1) + (4 * a3)) + q4), .ref (mP μ a0 14)], μ)) rfl ?_
  obtain ⟨h10, hr⟩ := mIf hr
  refine gIald (is := List.drop 30 mC212) h10 ?_
  refine mGo.steps 2 (c' := (212, List.drop 32 mC212, [.ref a0, .int a1, .int a2, .int a3, .int a4, .int q4, .int q8], [.int ((mI μ (mP μ a0 14) (Int32.toNatClampNeg (((8 * a1) + (4 * a3)) + q4))) + q8), .int (((8 * a1) + (4 * a3)) + q4), .ref (mP μ a0 14)], μ)) rfl ?_
  replace hr := mBs hr
  refine gIast (is := List.drop 33 mC212) h10 ?_
  let μ11 : mM := mUI μ (mP μ a0 14) (Int32.toNatClampNeg (((8 * a1) + (4 * a3)) + q4)) ((mI μ (mP μ a0 14) (Int32.toNatClampNeg (((8 * a1) + (4 * a3)) + q4))) + q8)
  refine mGo.steps 1 (c' := (212, List.drop 34 mC212, [.ref a0, .int a1, .int a2, .int a3, .int a4, .int q4, .int q8], [.ref a0], μ11)) rfl ?_
  refine gGet (is := List.drop 35 mC212) (v := .ref (mP μ11 a0 15)) h1 rfl ?_
  refine mGo.steps 6 (c' := (212, List.drop 41 mC212, [.ref a0, .int a1, .int a2, .int a3, .int a4, .int q4, .int q8], [.int ((2 * a2) + a3), .ref (mP μ11 a0 15), .int ((2 * a2) + a3), .ref (mP μ11 a0 15)], μ11)) rfl ?_
  obtain ⟨h12, hr⟩ := mIf hr
  refine gIald (is := List.drop 42 mC212) h12 ?_
  refine mGo.steps 2 (c' := (212, List.drop 44 mC212, [.ref a0, .int a1, .int a2, .int a3, .int a4, .int q4, .int q8], [.int ((mI μ11 (mP μ11 a0 15) (Int32.toNatClampNeg ((2 * a2) + a3))) + q8), .int ((2 * a2) + a3), .ref (mP μ11 a0 15)], μ11)) rfl ?_
  replace hr := mBs hr
  refine gIast (is := List.drop 45 mC212) h12 ?_
  let μ13 : mM := mUI μ11 (mP μ11 a0 15) (Int32.toNatClampNeg ((2 * a2) + a3)) ((mI μ11 (mP μ11 a0 15) (Int32.toNatClampNeg ((2 * a2) + a3))) + q8)
  refine mGo.steps 1 (c' := (212, List.drop 46 mC212, [.ref a0, .int a1, .int a2, .int a3, .int a4, .int q4, .int q8], [.int q8], μ13)) rfl ?_
  obtain rfl := Option.some.inj hr
  rw [show r = _ from hC]
  exact gIret rfl

/-! 213: TunnelFabricModel.nextTurn(III)I -/
def s213L6_28 (μ : mM) (p0 : Nat) (p1 : Int32) (p2 : Int32) (p3 : Int32) (v4 : Int32) (v5 : Int32) (v6 : Int32) : Option ((Int32 × Int32 × Int32) ⊕ ((Int32 × Int32) ⊕ Int32)) :=
  some (.inl (v4, v5, v6 + (-1)))
set_option maxRecDepth 20000 in
theorem t213L6_28 (μ : mM) (p0 : Nat) (p1 : Int32) (p2 : Int32) (p3 : Int32) (v4 : Int32) (v5 : Int32) (v6 : Int32) {o : ((Int32 × Int32 × Int32) ⊕ ((Int32 × Int32) ⊕ Int32))} {r : Option Value × mM} (hr : s213L6_28 μ p0 p1 p2 p3 v4 v5 v6 = some o) (hC : Sum.elim (fun s' : Int32 × Int32 × Int32 => mGo mG (213, List.drop 6 mC213, [.ref p0, .int p1, .int p2, .int p3, .int s'.1, .int s'.2.1, .int s'.2.2], [], μ) r) (Sum.elim (fun x : Int32 × Int32 => ∀ (w0 : Value) (hw0 : mNotL w0 = true) (w1 : Value) (hw1 : mNotL w1 = true) (w2 : Value) (hw2 : mNotL w2 = true) (w3 : Value) (hw3 : mNotL w3 = true) (w6 : Value) (hw6 : mNotL w6 = true), mGo mG (213, List.drop 30 mC213, [w0, w1, w2, w3, .int x.1, .int x.2, w6], [], μ) r) (fun y : Int32 => r = (some (.int y), μ))) o) : mGo mG (213, List.drop 28 mC213, [.ref p0, .int p1, .int p2, .int p3, .int v4, .int v5, .int v6], [], μ) r := by
  unfold s213L6_28 at hr
  refine mGo.steps 2 (c' := (213, List.drop 6 mC213, [.ref p0, .int p1, .int p2, .int p3, .int v4, .int v5, .int (v6 + (-1))], [], μ)) rfl ?_
  obtain rfl := Option.some.inj hr
  exact hC
def s213L6_25 (μ : mM) (p0 : Nat) (p1 : Int32) (p2 : Int32) (p3 : Int32) (v6 : Int32) (t0 : Int32) : Option ((Int32 × Int32 × Int32) ⊕ ((Int32 × Int32) ⊕ Int32)) :=
  s213L6_28 μ p0 p1 p2 p3 t0 v6 v6
set_option maxRecDepth 20000 in
theorem t213L6_25 (μ : mM) (p0 : Nat) (p1 : Int32) (p2 : Int32) (p3 : Int32) (v6 : Int32) (t0 : Int32) (w4 : Value) (hw4 : mNotL w4 = true) (w5 : Value) (hw5 : mNotL w5 = true) {o : ((Int32 × Int32 × Int32) ⊕ ((Int32 × Int32) ⊕ Int32))} {r : Option Value × mM} (hr : s213L6_25 μ p0 p1 p2 p3 v6 t0 = some o) (hC : Sum.elim (fun s' : Int32 × Int32 × Int32 => mGo mG (213, List.drop 6 mC213, [.ref p0, .int p1, .int p2, .int p3, .int s'.1, .int s'.2.1, .int s'.2.2], [], μ) r) (Sum.elim (fun x : Int32 × Int32 => ∀ (w0 : Value) (hw0 : mNotL w0 = true) (w1 : Value) (hw1 : mNotL w1 = true) (w2 : Value) (hw2 : mNotL w2 = true) (w3 : Value) (hw3 : mNotL w3 = true) (w6 : Value) (hw6 : mNotL w6 = true), mGo mG (213, List.drop 30 mC213, [w0, w1, w2, w3, .int x.1, .int x.2, w6], [], μ) r) (fun y : Int32 => r = (some (.int y), μ))) o) : mGo mG (213, List.drop 25 mC213, [.ref p0, .int p1, .int p2, .int p3, w4, w5, .int v6], [.int t0], μ) r := by
  unfold s213L6_25 at hr
  refine mGo.steps 3 (c' := (213, List.drop 28 mC213, [.ref p0, .int p1, .int p2, .int p3, .int t0, .int v6, .int v6], [], μ)) rfl ?_
  exact t213L6_28 μ p0 p1 p2 p3 t0 v6 v6 hr hC
def s213L6 (μ : mM) (p0 : Nat) (p1 : Int32) (p2 : Int32) (p3 : Int32) (s : Int32 × Int32 × Int32) : Option ((Int32 × Int32 × Int32) ⊕ ((Int32 × Int32) ⊕ Int32)) :=
  if s.2.2 < 0 then (some (.inr (.inl (s.1, s.2.1)))) else (if (mS μ p0).1 = 9 then (s162 μ p0 s.2.2 p1 p2).bind fun q2 => if q2 = 0 then (s213L6_28 μ p0 p1 p2 p3 s.1 s.2.1 s.2.2) else ((s159 μ p0 s.2.2 1).bind fun q4 => if q4 ≤ 0 then (s213L6_28 μ p0 p1 p2 p3 s.1 s.2.1 s.2.2) else (if s.2.2 ≤ p3 then (s213L6_25 μ p0 p1 p2 p3 s.2.2 s.1) else (s213L6_25 μ p0 p1 p2 p3 s.2.2 s.2.2))) else none)
set_option maxRecDepth 20000 in
theorem t213L6 (μ : mM) (p0 : Nat) (p1 : Int32) (p2 : Int32) (p3 : Int32) {r : Option Value × mM} (s : Int32 × Int32 × Int32) (o : ((Int32 × Int32 × Int32) ⊕ ((Int32 × Int32) ⊕ Int32))) (hr : s213L6 μ p0 p1 p2 p3 s = some o) (hC : Sum.elim (fun s' : Int32 × Int32 × Int32 => mGo mG (213, List.drop 6 mC213, [.ref p0, .int p1, .int p2, .int p3, .int s'.1, .int s'.2.1, .int s'.2.2], [], μ) r) (Sum.elim (fun x : Int32 × Int32 => ∀ (w0 : Value) (hw0 : mNotL w0 = true) (w1 : Value) (hw1 : mNotL w1 = true) (w2 : Value) (hw2 : mNotL w2 = true) (w3 : Value) (hw3 : mNotL w3 = true) (w6 : Value) (hw6 : mNotL w6 = true), mGo mG (213, List.drop 30 mC213, [w0, w1, w2, w3, .int x.1, .int x.2, w6], [], μ) r) (fun y : Int32 => r = (some (.int y), μ))) o) : mGo mG (213, List.drop 6 mC213, [.ref p0, .int p1, .int p2, .int p3, .int s.1, .int s.2.1, .int s.2.2], [], μ) r := by
  unfold s213L6 at hr
  refine mGo.steps 1 (c' := (213, List.drop 7 mC213, [.ref p0, .int p1, .int p2, .int p3, .int s.1, .int s.2.1, .int s.2.2], [.int s.2.2], μ)) rfl ?_
  rcases mIte hr with ⟨h9, hr⟩ | ⟨h9, hr⟩
  · refine gBrT (p := s.2.2 < 0) (y := 213) (is := List.drop 8 mC213) (L := [.ref p0, .int p1, .int p2, .int p3, .int s.1, .int s.2.1, .int s.2.2]) (st := []) (μ := μ) (t := 63) rfl h9 ?_
    obtain rfl := Option.some.inj hr
    exact hC (.ref p0) rfl (.int p1) rfl (.int p2) rfl (.int p3) rfl (.int s.2.2) rfl
  · refine gBrF (p := s.2.2 < 0) (y := 213) (is := List.drop 8 mC213) (L := [.ref p0, .int p1, .int p2, .int p3, .int s.1, .int s.2.1, .int s.2.2]) (st := []) (μ := μ) (t := 63) rfl h9 ?_
    refine mGo.steps 4 (c' := (213, List.drop 12 mC213, [.ref p0, .int p1, .int p2, .int p3, .int s.1, .int s.2.1, .int s.2.2], [.int p2, .int p1, .int s.2.2, .ref p0], μ)) rfl ?_
    obtain ⟨h1, hr⟩ := mIf hr
    obtain ⟨q2, h3, hr⟩ := mBi hr
    refine gCall (z := 162) (n := 3) (f := 0) (kind := 1) (a := p0) (As := [.int s.2.2, .int p1, .int p2]) (y := 213) (is := List.drop 13 mC213) (L := [.ref p0, .int p1, .int p2, .int p3, .int s.1, .int s.2.1, .int s.2.2]) (rest := []) (μ := μ) rfl (by decide) (by decide) ⟨rfl, rfl⟩ rfl h1 (Nat.le_of_ble_eq_true rfl) (Nat.le_of_ble_eq_true rfl) (t162 h3) ?_
    rcases mIte hr with ⟨h8, hr⟩ | ⟨h8, hr⟩
    · refine gBrT (p := q2 = 0) (y := 213) (is := List.drop 14 mC213) (L := [.ref p0, .int p1, .int p2, .int p3, .int s.1, .int s.2.1, .int s.2.2]) (st := []) (μ := μ) (t := 57) rfl h8 ?_
      exact t213L6_28 μ p0 p1 p2 p3 s.1 s.2.1 s.2.2 hr hC
    · refine gBrF (p := q2 = 0) (y := 213) (is := List.drop 14 mC213) (L := [.ref p0, .int p1, .int p2, .int p3, .int s.1, .int s.2.1, .int s.2.2]) (st := []) (μ := μ) (t := 57) rfl h8 ?_
      refine mGo.steps 3 (c' := (213, List.drop 17 mC213, [.ref p0, .int p1, .int p2, .int p3, .int s.1, .int s.2.1, .int s.2.2], [.int 1, .int s.2.2, .ref p0], μ)) rfl ?_
      obtain ⟨q4, h5, hr⟩ := mBi hr
      refine gCall (z := 159) (n := 2) (f := 0) (kind := 1) (a := p0) (As := [.int s.2.2, .int 1]) (y := 213) (is := List.drop 18 mC213) (L := [.ref p0, .int p1, .int p2, .int p3, .int s.1, .int s.2.1, .int s.2.2]) (rest := []) (μ := μ) rfl (by decide) (by decide) ⟨rfl, rfl⟩ rfl h1 (Nat.le_of_ble_eq_true rfl) (Nat.le_of_ble_eq_true rfl) (t159 h5) ?_
      rcases mIte hr with ⟨h7, hr⟩ | ⟨h7, hr⟩
      · refine gBrT (p := q4 ≤ 0) (y := 213) (is := List.drop 19 mC213) (L := [.ref p0, .int p1, .int p2, .int p3, .int s.1, .int s.2.1, .int s.2.2]) (st := []) (μ := μ) (t := 57) rfl h7 ?_
        exact t213L6_28 μ p0 p1 p2 p3 s.1 s.2.1 s.2.2 hr hC
      · refine gBrF (p := q4 ≤ 0) (y := 213) (is := List.drop 19 mC213) (L := [.ref p0, .int p1, .int p2, .int p3, .int s.1, .int s.2.1, .int s.2.2]) (st := []) (μ := μ) (t := 57) rfl h7 ?_
        refine mGo.steps 2 (c' := (213, List.drop 21 mC213, [.ref p0, .int p1, .int p2, .int p3, .int s.1, .int s.2.1, .int s.2.2], [.int p3, .int s.2.2], μ)) rfl ?_
        rcases mIte hr with ⟨h6, hr⟩ | ⟨h6, hr⟩
        · refine gBrT (p := s.2.2 ≤ p3) (y := 213) (is := List.drop 22 mC213) (L := [.ref p0, .int p1, .int p2, .int p3, .int s.1, .int s.2.1, .int s.2.2]) (st := []) (μ := μ) (t := 49) rfl h6 ?_
          refine mGo.steps 1 (c' := (213, List.drop 25 mC213, [.ref p0, .int p1, .int p2, .int p3, .int s.1, .int s.2.1, .int s.2.2], [.int s.1], μ)) rfl ?_
          exact t213L6_25 μ p0 p1 p2 p3 s.2.2 s.1 (.int s.1) rfl (.int s.2.1) rfl hr hC
        · refine gBrF (p := s.2.2 ≤ p3) (y := 213) (is := List.drop 22 mC213) (L := [.ref p0, .int p1, .int p2, .int p3, .int s.1, .int s.2.1, .int s.2.2]) (st := []) (μ := μ) (t := 49) rfl h6 ?_
          refine mGo.steps 2 (c' := (213, List.drop 25 mC213, [.ref p0, .int p1, .int p2, .int p3, .int s.1, .int s.2.1, .int s.2.2], [.int s.2.2], μ)) rfl ?_
          exact t213L6_25 μ p0 p1 p2 p3 s.2.2 s.2.2 (.int s.1) rfl (.int s.2.1) rfl hr hC
theorem t213L6l (μ : mM) (p0 : Nat) (p1 : Int32) (p2 : Int32) (p3 : Int32) {r : Option Value × mM} (n : Nat) (s : Int32 × Int32 × Int32) (o : (Int32 × Int32) ⊕ Int32) (hr : mLoop (s213L6 μ p0 p1 p2 p3) n s = some o) (hC : Sum.elim (fun x : Int32 × Int32 => ∀ (w0 : Value) (hw0 : mNotL w0 = true) (w1 : Value) (hw1 : mNotL w1 = true) (w2 : Value) (hw2 : mNotL w2 = true) (w3 : Value) (hw3 : mNotL w3 = true) (w6 : Value) (hw6 : mNotL w6 = true), mGo mG (213, List.drop 30 mC213, [w0, w1, w2, w3, .int x.1, .int x.2, w6], [], μ) r) (fun y : Int32 => r = (some (.int y), μ)) o) : mGo mG (213, List.drop 6 mC213, [.ref p0, .int p1, .int p2, .int p3, .int s.1, .int s.2.1, .int s.2.2], [], μ) r :=
  mLoop_go (Hd := (fun s' : Int32 × Int32 × Int32 => mGo mG (213, List.drop 6 mC213, [.ref p0, .int p1, .int p2, .int p3, .int s'.1, .int s'.2.1, .int s'.2.2], [], μ) r)) (fun s o hb hC => t213L6 μ p0 p1 p2 p3 s o hb hC) n s o hr hC
def s213_36 (μ : mM) (a0 : Nat) (a1 : Int32) (a2 : Int32) (a3 : Int32) (t0 : Int32) : Option Int32 :=
  some t0
set_option maxRecDepth 20000 in
theorem t213_36 (μ : mM) (a0 : Nat) (a1 : Int32) (a2 : Int32) (a3 : Int32) (t0 : Int32) (w0 : Value) (hw0 : mNotL w0 = true) (w1 : Value) (hw1 : mNotL w1 = true) (w2 : Value) (hw2 : mNotL w2 = true) (w3 : Value) (hw3 : mNotL w3 = true) (w4 : Value) (hw4 : mNotL w4 = true) (w5 : Value) (hw5 : mNotL w5 = true) (w6 : Value) (hw6 : mNotL w6 = true) {o : Int32} {r : Option Value × mM} (hr : s213_36 μ a0 a1 a2 a3 t0 = some o) (hC : r = (some (.int o), μ)) : mGo mG (213, List.drop 36 mC213, [w0, w1, w2, w3, w4, w5, w6], [.int t0], μ) r := by
  unfold s213_36 at hr
  obtain rfl := Option.some.inj hr
  rw [show r = _ from hC]
  exact gIret rfl
def s213 (μ : mM) (a0 : Nat) (a1 : Int32) (a2 : Int32) (a3 : Int32) : Option Int32 :=
  (mLoop (s213L6 μ a0 a1 a2 a3) 1000 ((-10), (-10), 9)).bind fun o10 => Sum.elim (fun x11 => if ¬ x11.1 = (-10) then (s213_36 μ a0 a1 a2 a3 x11.1) else (s213_36 μ a0 a1 a2 a3 x11.2)) (fun y12 => some y12) o10
set_option maxRecDepth 20000 in
theorem t213 {μ : mM} {a0 : Nat} {a1 : Int32} {a2 : Int32} {a3 : Int32} {o : Int32} (hr : s213 μ a0 a1 a2 a3 = some o) : mEv mG 213 [.ref a0, .int a1, .int a2, .int a3] μ (some (.int o)) (μ) := by
  obtain ⟨r, hC⟩ : ∃ r : Option Value × mM, r = (some (.int o), μ) := ⟨_, rfl⟩
  show mGo mG (213, List.drop 0 mC213, [.ref a0, .int a1, .int a2, .int a3, .retAddr 0, .retAddr 0, .retAddr 0], [], μ) (some (.int o), μ)
  rw [← hC]
  unfold s213 at hr
  refine mGo.steps 6 (c' := (213, List.drop 6 mC213, [.ref a0, .int a1, .int a2, .int a3, .int (-10), .int (-10), .int 9], [], μ)) rfl ?_
  obtain ⟨o10, h13, hr⟩ := mBi hr
  refine t213L6l μ a0 a1 a2 a3 1000 ((-10), (-10), 9) o10 h13 ?_ 
  cases o10 with
  | inl x11 =>
    show ∀ (w0 : Value) (hw0 : mNotL w0 = true) (w1 : Value) (hw1 : mNotL w1 = true) (w2 : Value) (hw2 : mNotL w2 = true) (w3 : Value) (hw3 : mNotL w3 = true) (w6 : Value) (hw6 : mNotL w6 = true), mGo mG (213, List.drop 30 mC213, [w0, w1, w2, w3, .int x11.1, .int x11.2, w6], [], μ) r
    intro w0 hw0 w1 hw1 w2 hw2 w3 hw3 w6 hw6
    replace hr : (_) = some _ := hr
    refine mGo.steps 2 (c' := (213, List.drop 32 mC213, [w0, w1, w2, w3, .int x11.1, .int x11.2, w6], [.int (-10), .int x11.1], μ)) rfl ?_
    rcases mIte hr with ⟨h14, hr⟩ | ⟨h14, hr⟩
    · refine gBrT (p := ¬ x11.1 = (-10)) (y := 213) (is := List.drop 33 mC213) (L := [w0, w1, w2, w3, .int x11.1, .int x11.2, w6]) (st := []) (μ := μ) (t := 75) rfl h14 ?_
      refine mGo.steps 1 (c' := (213, List.drop 36 mC213, [w0, w1, w2, w3, .int x11.1, .int x11.2, w6], [.int x11.1], μ)) rfl ?_
      exact t213_36 μ a0 a1 a2 a3 x11.1 w0 hw0 w1 hw1 w2 hw2 w3 hw3 (.int x11.1) rfl (.int x11.2) rfl w6 hw6 hr hC
    · refine gBrF (p := ¬ x11.1 = (-10)) (y := 213) (is := List.drop 33 mC213) (L := [w0, w1, w2, w3, .int x11.1, .int x11.2, w6]) (st := []) (μ := μ) (t := 75) rfl h14 ?_
      refine mGo.steps 2 (c' := (213, List.drop 36 mC213, [w0, w1, w2, w3, .int x11.1, .int x11.2, w6], [.int x11.2], μ)) rfl ?_
      exact t213_36 μ a0 a1 a2 a3 x11.2 w0 hw0 w1 hw1 w2 hw2 w3 hw3 (.int x11.1) rfl (.int x11.2) rfl w6 hw6 hr hC
  | inr y12 =>
    obtain rfl := Option.some.inj hr
    exact hC

/-! 214: TunnelFabricModel.users(II)I -/
def s214L4_22 (μ : mM) (p0 : Nat) (p1 : Int32) (p2 : Int32) (v4 : Int32) (t0 : Int32) (t1 : Int32) : Option ((Int32 × Int32) ⊕ ((Int32) ⊕ Int32)) :=
  some (.inl (t1 + t0, v4 + 1))
set_option maxRecDepth 20000 in
theorem t214L4_22 (μ : mM) (p0 : Nat) (p1 : Int32) (p2 : Int32) (v4 : Int32) (t0 : Int32) (t1 : Int32) (w3 : Value) (hw3 : mNotL w3 = true) {o : ((Int32 × Int32) ⊕ ((Int32) ⊕ Int32))} {r : Option Value × mM} (hr : s214L4_22 μ p0 p1 p2 v4 t0 t1 = some o) (hC : Sum.elim (fun s' : Int32 × Int32 => mGo mG (214, List.drop 4 mC214, [.ref p0, .int p1, .int p2, .int s'.1, .int s'.2], [], μ) r) (Sum.elim (fun x : Int32 => ∀ (w0 : Value) (hw0 : mNotL w0 = true) (w1 : Value) (hw1 : mNotL w1 = true) (w2 : Value) (hw2 : mNotL w2 = true) (w4 : Value) (hw4 : mNotL w4 = true), mGo mG (214, List.drop 26 mC214, [w0, w1, w2, .int x, w4], [], μ) r) (fun y : Int32 => r = (some (.int y), μ))) o) : mGo mG (214, List.drop 22 mC214, [.ref p0, .int p1, .int p2, w3, .int v4], [.int t0, .int t1], μ) r := by
  unfold s214L4_22 at hr
  refine mGo.steps 4 (c' := (214, List.drop 4 mC214, [.ref p0, .int p1, .int p2, .int (t1 + t0), .int (v4 + 1)], [], μ)) rfl ?_
  obtain rfl := Option.some.inj hr
  exact hC
def s214L4_21 (μ : mM) (p0 : Nat) (p1 : Int32) (p2 : Int32) (v4 : Int32) (t0 : Int32) : Option ((Int32 × Int32) ⊕ ((Int32) ⊕ Int32)) :=
  s214L4_22 μ p0 p1 p2 v4 0 t0
set_option maxRecDepth 20000 in
theorem t214L4_21 (μ : mM) (p0 : Nat) (p1 : Int32) (p2 : Int32) (v4 : Int32) (t0 : Int32) (w3 : Value) (hw3 : mNotL w3 = true) {o : ((Int32 × Int32) ⊕ ((Int32) ⊕ Int32))} {r : Option Value × mM} (hr : s214L4_21 μ p0 p1 p2 v4 t0 = some o) (hC : Sum.elim (fun s' : Int32 × Int32 => mGo mG (214, List.drop 4 mC214, [.ref p0, .int p1, .int p2, .int s'.1, .int s'.2], [], μ) r) (Sum.elim (fun x : Int32 => ∀ (w0 : Value) (hw0 : mNotL w0 = true) (w1 : Value) (hw1 : mNotL w1 = true) (w2 : Value) (hw2 : mNotL w2 = true) (w4 : Value) (hw4 : mNotL w4 = true), mGo mG (214, List.drop 26 mC214, [w0, w1, w2, .int x, w4], [], μ) r) (fun y : Int32 => r = (some (.int y), μ))) o) : mGo mG (214, List.drop 21 mC214, [.ref p0, .int p1, .int p2, w3, .int v4], [.int t0], μ) r := by
  unfold s214L4_21 at hr
  refine mGo.steps 1 (c' := (214, List.drop 22 mC214, [.ref p0, .int p1, .int p2, w3, .int v4], [.int 0, .int t0], μ)) rfl ?_
  exact t214L4_22 μ p0 p1 p2 v4 0 t0 w3 hw3 hr hC
def s214L4 (μ : mM) (p0 : Nat) (p1 : Int32) (p2 : Int32) (s : Int32 × Int32) : Option ((Int32 × Int32) ⊕ ((Int32) ⊕ Int32)) :=
  if 10 ≤ s.2 then (some (.inr (.inl s.1))) else (if (mS μ p0).1 = 9 then (s162 μ p0 s.2 p1 p2).bind fun q2 => if q2 = 0 then (s214L4_21 μ p0 p1 p2 s.2 s.1) else ((s159 μ p0 s.2 1).bind fun q4 => if q4 ≤ 0 then (s214L4_21 μ p0 p1 p2 s.2 s.1) else (s214L4_22 μ p0 p1 p2 s.2 1 s.1)) else none)
set_option maxRecDepth 20000 in
theorem t214L4 (μ : mM) (p0 : Nat) (p1 : Int32) (p2 : Int32) {r : Option Value × mM} (s : Int32 × Int32) (o : ((Int32 × Int32) ⊕ ((Int32) ⊕ Int32))) (hr : s214L4 μ p0 p1 p2 s = some o) (hC : Sum.elim (fun s' : Int32 × Int32 => mGo mG (214, List.drop 4 mC214, [.ref p0, .int p1, .int p2, .int s'.1, .int s'.2], [], μ) r) (Sum.elim (fun x : Int32 => ∀ (w0 : Value) (hw0 : mNotL w0 = true) (w1 : Value) (hw1 : mNotL w1 = true) (w2 : Value) (hw2 : mNotL w2 = true) (w4 : Value) (hw4 : mNotL w4 = true), mGo mG (214, List.drop 26 mC214, [w0, w1, w2, .int x, w4], [], μ) r) (fun y : Int32 => r = (some (.int y), μ))) o) : mGo mG (214, List.drop 4 mC214, [.ref p0, .int p1, .int p2, .int s.1, .int s.2], [], μ) r := by
  unfold s214L4 at hr
  refine mGo.steps 2 (c' := (214, List.drop 6 mC214, [.ref p0, .int p1, .int p2, .int s.1, .int s.2], [.int 10, .int s.2], μ)) rfl ?_
  rcases mIte hr with ⟨h8, hr⟩ | ⟨h8, hr⟩
  · refine gBrT (p := 10 ≤ s.2) (y := 214) (is := List.drop 7 mC214) (L := [.ref p0, .int p1, .int p2, .int s.1, .int s.2]) (st := []) (μ := μ) (t := 47) rfl h8 ?_
    obtain rfl := Option.some.inj hr
    exact hC (.ref p0) rfl (.int p1) rfl (.int p2) rfl (.int s.2) rfl
  · refine gBrF (p := 10 ≤ s.2) (y := 214) (is := List.drop 7 mC214) (L := [.ref p0, .int p1, .int p2, .int s.1, .int s.2]) (st := []) (μ := μ) (t := 47) rfl h8 ?_
    refine mGo.steps 5 (c' := (214, List.drop 12 mC214, [.ref p0, .int p1, .int p2, .int s.1, .int s.2], [.int p2, .int p1, .int s.2, .ref p0, .int s.1], μ)) rfl ?_
    obtain ⟨h1, hr⟩ := mIf hr
    obtain ⟨q2, h3, hr⟩ := mBi hr
    refine gCall (z := 162) (n := 3) (f := 0) (kind := 1) (a := p0) (As := [.int s.2, .int p1, .int p2]) (y := 214) (is := List.drop 13 mC214) (L := [.ref p0, .int p1, .int p2, .int s.1, .int s.2]) (rest := [.int s.1]) (μ := μ) rfl (by decide) (by decide) ⟨rfl, rfl⟩ rfl h1 (Nat.le_of_ble_eq_true rfl) (Nat.le_of_ble_eq_true rfl) (t162 h3) ?_
    rcases mIte hr with ⟨h7, hr⟩ | ⟨h7, hr⟩
    · refine gBrT (p := q2 = 0) (y := 214) (is := List.drop 14 mC214) (L := [.ref p0, .int p1, .int p2, .int s.1, .int s.2]) (st := [.int s.1]) (μ := μ) (t := 38) rfl h7 ?_
      exact t214L4_21 μ p0 p1 p2 s.2 s.1 (.int s.1) rfl hr hC
    · refine gBrF (p := q2 = 0) (y := 214) (is := List.drop 14 mC214) (L := [.ref p0, .int p1, .int p2, .int s.1, .int s.2]) (st := [.int s.1]) (μ := μ) (t := 38) rfl h7 ?_
      refine mGo.steps 3 (c' := (214, List.drop 17 mC214, [.ref p0, .int p1, .int p2, .int s.1, .int s.2], [.int 1, .int s.2, .ref p0, .int s.1], μ)) rfl ?_
      obtain ⟨q4, h5, hr⟩ := mBi hr
      refine gCall (z := 159) (n := 2) (f := 0) (kind := 1) (a := p0) (As := [.int s.2, .int 1]) (y := 214) (is := List.drop 18 mC214) (L := [.ref p0, .int p1, .int p2, .int s.1, .int s.2]) (rest := [.int s.1]) (μ := μ) rfl (by decide) (by decide) ⟨rfl, rfl⟩ rfl h1 (Nat.le_of_ble_eq_true rfl) (Nat.le_of_ble_eq_true rfl) (t159 h5) ?_
      rcases mIte hr with ⟨h6, hr⟩ | ⟨h6, hr⟩
      · refine gBrT (p := q4 ≤ 0) (y := 214) (is := List.drop 19 mC214) (L := [.ref p0, .int p1, .int p2, .int s.1, .int s.2]) (st := [.int s.1]) (μ := μ) (t := 38) rfl h6 ?_
        exact t214L4_21 μ p0 p1 p2 s.2 s.1 (.int s.1) rfl hr hC
      · refine gBrF (p := q4 ≤ 0) (y := 214) (is := List.drop 19 mC214) (L := [.ref p0, .int p1, .int p2, .int s.1, .int s.2]) (st := [.int s.1]) (μ := μ) (t := 38) rfl h6 ?_
        refine mGo.steps 2 (c' := (214, List.drop 22 mC214, [.ref p0, .int p1, .int p2, .int s.1, .int s.2], [.int 1, .int s.1], μ)) rfl ?_
        exact t214L4_22 μ p0 p1 p2 s.2 1 s.1 (.int s.1) rfl hr hC
theorem t214L4l (μ : mM) (p0 : Nat) (p1 : Int32) (p2 : Int32) {r : Option Value × mM} (n : Nat) (s : Int32 × Int32) (o : (Int32) ⊕ Int32) (hr : mLoop (s214L4 μ p0 p1 p2) n s = some o) (hC : Sum.elim (fun x : Int32 => ∀ (w0 : Value) (hw0 : mNotL w0 = true) (w1 : Value) (hw1 : mNotL w1 = true) (w2 : Value) (hw2 : mNotL w2 = true) (w4 : Value) (hw4 : mNotL w4 = true), mGo mG (214, List.drop 26 mC214, [w0, w1, w2, .int x, w4], [], μ) r) (fun y : Int32 => r = (some (.int y), μ)) o) : mGo mG (214, List.drop 4 mC214, [.ref p0, .int p1, .int p2, .int s.1, .int s.2], [], μ) r :=
  mLoop_go (Hd := (fun s' : Int32 × Int32 => mGo mG (214, List.drop 4 mC214, [.ref p0, .int p1, .int p2, .int s'.1, .int s'.2], [], μ) r)) (fun s o hb hC => t214L4 μ p0 p1 p2 s o hb hC) n s o hr hC
def s214 (μ : mM) (a0 : Nat) (a1 : Int32) (a2 : Int32) : Option Int32 :=
  (mLoop (s214L4 μ a0 a1 a2) 1000 (0, 0)).bind fun o9 => Sum.elim (fun x10 => some x10) (fun y11 => some y11) o9
set_option maxRecDepth 20000 in
theorem t214 {μ : mM} {a0 : Nat} {a1 : Int32} {a2 : Int32} {o : Int32} (hr : s214 μ a0 a1 a2 = some o) : mEv mG 214 [.ref a0, .int a1, .int a2] μ (some (.int o)) (μ) := by
  obtain ⟨r, hC⟩ : ∃ r : Option Value × mM, r = (some (.int o), μ) := ⟨_, rfl⟩
  show mGo mG (214, List.drop 0 mC214, [.ref a0, .int a1, .int a2, .retAddr 0, .retAddr 0], [], μ) (some (.int o), μ)
  rw [← hC]
  unfold s214 at hr
  refine mGo.steps 4 (c' := (214, List.drop 4 mC214, [.ref a0, .int a1, .int a2, .int 0, .int 0], [], μ)) rfl ?_
  obtain ⟨o9, h12, hr⟩ := mBi hr
  refine t214L4l μ a0 a1 a2 1000 (0, 0) o9 h12 ?_ 
  cases o9 with
  | inl x10 =>
    show ∀ (w0 : Value) (hw0 : mNotL w0 = true) (w1 : Value) (hw1 : mNotL w1 = true) (w2 : Value) (hw2 : mNotL w2 = true) (w4 : Value) (hw4 : mNotL w4 = true), mGo mG (214, List.drop 26 mC214, [w0, w1, w2, .int x10, w4], [], μ) r
    intro w0 hw0 w1 hw1 w2 hw2 w4 hw4
    replace hr : (_) = some _ := hr
    refine mGo.steps 1 (c' := (214, List.drop 27 mC214, [w0, w1, w2, .int x10, w4], [.int x10], μ)) rfl ?_
    obtain rfl := Option.some.inj hr
    rw [show r = _ from hC]
    exact gIret rfl
  | inr y11 =>
    obtain rfl := Option.some.inj hr
    exact hC

/-! 215: TunnelFabricModel.passes(II)V -/
def s215L7_35 (p0 : Nat) (p1 : Int32) (p2 : Int32) (μ : mM) (v3 : Int32) (v4 : Int32) : Option ((Int32 × Int32 × mM) ⊕ ((Int32 × mM) ⊕ mM)) :=
  some (.inl (v3, v4 + 1, μ))
set_option maxRecDepth 20000 in
theorem t215L7_35 (p0 : Nat) (p1 : Int32) (p2 : Int32) (μ : mM) (v3 : Int32) (v4 : Int32) (w5 : Value) (hw5 : mNotL w5 = true) (w6 : Value) (hw6 : mNotL w6 = true) (w7 : Value) (hw7 : mNotL w7 = true) (w8 : Value) (hw8 : mNotL w8 = true) {o : ((Int32 × Int32 × mM) ⊕ ((Int32 × mM) ⊕ mM))} {r : Option Value × mM} (hr : s215L7_35 p0 p1 p2 μ v3 v4 = some o) (hC : Sum.elim (fun s' : Int32 × Int32 × mM => ∀ (w5 : Value) (hw5 : mNotL w5 = true) (w6 : Value) (hw6 : mNotL w6 = true) (w7 : Value) (hw7 : mNotL w7 = true) (w8 : Value) (hw8 : mNotL w8 = true), mGo mG (215, List.drop 7 mC215, [.ref p0, .int p1, .int p2, .int s'.1, .int s'.2.1, w5, w6, w7, w8], [], s'.2.2) r) (Sum.elim (fun x : Int32 × mM => ∀ (w4 : Value) (hw4 : mNotL w4 = true) (w5 : Value) (hw5 : mNotL w5 = true) (w6 : Value) (hw6 : mNotL w6 = true) (w7 : Value) (hw7 : mNotL w7 = true) (w8 : Value) (hw8 : mNotL w8 = true), mGo mG (215, List.drop 37 mC215, [.ref p0, .int p1, .int p2, .int x.1, w4, w5, w6, w7, w8], [], x.2) r) (fun y : mM => r = (none, y))) o) : mGo mG (215, List.drop 35 mC215, [.ref p0, .int p1, .int p2, .int v3, .int v4, w5, w6, w7, w8], [], μ) r := by
  unfold s215L7_35 at hr
  refine mGo.steps 2 (c' := (215, List.drop 7 mC215, [.ref p0, .int p1, .int p2, .int v3, .int (v4 + 1), w5, w6, w7, w8], [], μ)) rfl ?_
  obtain rfl := Option.some.inj hr
  exact hC w5 hw5 w6 hw6 w7 hw7 w8 hw8
def s215L7 (p0 : Nat) (p1 : Int32) (p2 : Int32) (s : Int32 × Int32 × mM) : Option ((Int32 × Int32 × mM) ⊕ ((Int32 × mM) ⊕ mM)) :=
  if 10 ≤ s.2.1 then (some (.inr (.inl (s.1, s.2.2)))) else (if (mS s.2.2 p0).1 = 9 then (s162 s.2.2 p0 s.2.1 p1 p2).bind fun q5 => if q5 = 0 then (s215L7_35 p0 p1 p2 s.2.2 s.1 s.2.1) else ((s159 s.2.2 p0 s.2.1 1).bind fun q7 => if ¬ q7 = 0 then (s215L7_35 p0 p1 p2 s.2.2 s.1 s.2.1) else ((s159 s.2.2 p0 s.2.1 4).bind fun q9 => (s145 s.2.2 q9 s.1).bind fun q11 => (s212 s.2.2 p0 s.2.1 p1 p2 q11).bind fun q13 => s215L7_35 p0 p1 p2 q13.2 (s.1 - q13.1) s.2.1)) else none)
set_option maxRecDepth 20000 in
theorem t215L7 (p0 : Nat) (p1 : Int32) (p2 : Int32) {r : Option Value × mM} (s : Int32 × Int32 × mM) (o : ((Int32 × Int32 × mM) ⊕ ((Int32 × mM) ⊕ mM))) (hr : s215L7 p0 p1 p2 s = some o) (hC : Sum.elim (fun s' : Int32 × Int32 × mM => ∀ (w5 : Value) (hw5 : mNotL w5 = true) (w6 : Value) (hw6 : mNotL w6 = true) (w7 : Value) (hw7 : mNotL w7 = true) (w8 : Value) (hw8 : mNotL w8 = true), mGo mG (215, List.drop 7 mC215, [.ref p0, .int p1, .int p2, .int s'.1, .int s'.2.1, w5, w6, w7, w8], [], s'.2.2) r) (Sum.elim (fun x : Int32 × mM => ∀ (w4 : Value) (hw4 : mNotL w4 = true) (w5 : Value) (hw5 : mNotL w5 = true) (w6 : Value) (hw6 : mNotL w6 = true) (w7 : Value) (hw7 : mNotL w7 = true) (w8 : Value) (hw8 : mNotL w8 = true), mGo mG (215, List.drop 37 mC215, [.ref p0, .int p1, .int p2, .int x.1, w4, w5, w6, w7, w8], [], x.2) r) (fun y : mM => r = (none, y))) o) : ∀ (w5 : Value) (hw5 : mNotL w5 = true) (w6 : Value) (hw6 : mNotL w6 = true) (w7 : Value) (hw7 : mNotL w7 = true) (w8 : Value) (hw8 : mNotL w8 = true), mGo mG (215, List.drop 7 mC215, [.ref p0, .int p1, .int p2, .int s.1, .int s.2.1, w5, w6, w7, w8], [], s.2.2) r := by
  intro w5 hw5 w6 hw6 w7 hw7 w8 hw8
  unfold s215L7 at hr
  refine mGo.steps 2 (c' := (215, List.drop 9 mC215, [.ref p0, .int p1, .int p2, .int s.1, .int s.2.1, w5, w6, w7, w8], [.int 10, .int s.2.1], s.2.2)) rfl ?_
  rcases mIte hr with ⟨h17, hr⟩ | ⟨h17, hr⟩
  · refine gBrT (p := 10 ≤ s.2.1) (y := 215) (is := List.drop 10 mC215) (L := [.ref p0, .int p1, .int p2, .int s.1, .int s.2.1, w5, w6, w7, w8]) (st := []) (μ := s.2.2) (t := 66) rfl h17 ?_
    obtain rfl := Option.some.inj hr
    exact hC (.int s.2.1) rfl w5 hw5 w6 hw6 w7 hw7 w8 hw8
  · refine gBrF (p := 10 ≤ s.2.1) (y := 215) (is := List.drop 10 mC215) (L := [.ref p0, .int p1, .int p2, .int s.1, .int s.2.1, w5, w6, w7, w8]) (st := []) (μ := s.2.2) (t := 66) rfl h17 ?_
    refine mGo.steps 4 (c' := (215, List.drop 14 mC215, [.ref p0, .int p1, .int p2, .int s.1, .int s.2.1, w5, w6, w7, w8], [.int p2, .int p1, .int s.2.1, .ref p0], s.2.2)) rfl ?_
    obtain ⟨h4, hr⟩ := mIf hr
    obtain ⟨q5, h6, hr⟩ := mBi hr
    refine gCall (z := 162) (n := 3) (f := 0) (kind := 1) (a := p0) (As := [.int s.2.1, .int p1, .int p2]) (y := 215) (is := List.drop 15 mC215) (L := [.ref p0, .int p1, .int p2, .int s.1, .int s.2.1, w5, w6, w7, w8]) (rest := []) (μ := s.2.2) rfl (by decide) (by decide) ⟨rfl, rfl⟩ rfl h4 (Nat.le_of_ble_eq_true rfl) (Nat.le_of_ble_eq_true rfl) (t162 h6) ?_
    rcases mIte hr with ⟨h16, hr⟩ | ⟨h16, hr⟩
    · refine gBrT (p := q5 = 0) (y := 215) (is := List.drop 16 mC215) (L := [.ref p0, .int p1, .int p2, .int s.1, .int s.2.1, w5, w6, w7, w8]) (st := []) (μ := s.2.2) (t := 60) rfl h16 ?_
      exact t215L7_35 p0 p1 p2 s.2.2 s.1 s.2.1 w5 hw5 w6 hw6 w7 hw7 w8 hw8 hr hC
    · refine gBrF (p := q5 = 0) (y := 215) (is := List.drop 16 mC215) (L := [.ref p0, .int p1, .int p2, .int s.1, .int s.2.1, w5, w6, w7, w8]) (st := []) (μ := s.2.2) (t := 60) rfl h16 ?_
      refine mGo.steps 3 (c' := (215, List.drop 19 mC215, [.ref p0, .int p1, .int p2, .int s.1, .int s.2.1, w5, w6, w7, w8], [.int 1, .int s.2.1, .ref p0], s.2.2)) rfl ?_
      obtain ⟨q7, h8, hr⟩ := mBi hr
      refine gCall (z := 159) (n := 2) (f := 0) (kind := 1) (a := p0) (As := [.int s.2.1, .int 1]) (y := 215) (is := List.drop 20 mC215) (L := [.ref p0, .int p1, .int p2, .int s.1, .int s.2.1, w5, w6, w7, w8]) (rest := []) (μ := s.2.2) rfl (by decide) (by decide) ⟨rfl, rfl⟩ rfl h4 (Nat.le_of_ble_eq_true rfl) (Nat.le_of_ble_eq_true rfl) (t159 h8) ?_
      rcases mIte hr with ⟨h15, hr⟩ | ⟨h15, hr⟩
      · refine gBrT (p := ¬ q7 = 0) (y := 215) (is := List.drop 21 mC215) (L := [.ref p0, .int p1, .int p2, .int s.1, .int s.2.1, w5, w6, w7, w8]) (st := []) (μ := s.2.2) (t := 60) rfl h15 ?_
        exact t215L7_35 p0 p1 p2 s.2.2 s.1 s.2.1 w5 hw5 w6 hw6 w7 hw7 w8 hw8 hr hC
      · refine gBrF (p := ¬ q7 = 0) (y := 215) (is := List.drop 21 mC215) (L := [.ref p0, .int p1, .int p2, .int s.1, .int s.2.1, w5, w6, w7, w8]) (st := []) (μ := s.2.2) (t := 60) rfl h15 ?_
        refine mGo.steps 8 (c' := (215, List.drop 29 mC215, [.ref p0, .int p1, .int p2, .int s.1, .int s.2.1, w5, w6, w7, w8], [.int 4, .int s.2.1, .ref p0, .int p2, .int p1, .int s.2.1, .ref p0, .int s.1], s.2.2)) rfl ?_
        obtain ⟨q9, h10, hr⟩ := mBi hr
        refine gCall (z := 159) (n := 2) (f := 0) (kind := 1) (a := p0) (As := [.int s.2.1, .int 4]) (y := 215) (is := List.drop 30 mC215) (L := [.ref p0, .int p1, .int p2, .int s.1, .int s.2.1, w5, w6, w7, w8]) (rest := [.int p2, .int p1, .int s.2.1, .ref p0, .int s.1]) (μ := s.2.2) rfl (by decide) (by decide) ⟨rfl, rfl⟩ rfl h4 (Nat.le_of_ble_eq_true rfl) (Nat.le_of_ble_eq_true rfl) (t159 h10) ?_
        refine mGo.steps 1 (c' := (215, List.drop 31 mC215, [.ref p0, .int p1, .int p2, .int s.1, .int s.2.1, w5, w6, w7, w8], [.int s.1, .int q9, .int p2, .int p1, .int s.2.1, .ref p0, .int s.1], s.2.2)) rfl ?_
        obtain ⟨q11, h12, hr⟩ := mBi hr
        refine mGo.call (z := 145) (as := [.int q9, .int s.1]) (y := 215) (is := List.drop 32 mC215) (L := [.ref p0, .int p1, .int p2, .int s.1, .int s.2.1, w5, w6, w7, w8]) (st := [.int p2, .int p1, .int s.2.1, .ref p0, .int s.1]) (μ := s.2.2) rfl (t145 h12) ?_
        obtain ⟨q13, h14, hr⟩ := mBi hr
        refine gCall (z := 212) (n := 4) (f := 0) (kind := 1) (a := p0) (As := [.int s.2.1, .int p1, .int p2, .int q11]) (y := 215) (is := List.drop 33 mC215) (L := [.ref p0, .int p1, .int p2, .int s.1, .int s.2.1, w5, w6, w7, w8]) (rest := [.int s.1]) (μ := s.2.2) rfl (by decide) (by decide) ⟨rfl, rfl⟩ rfl h4 (Nat.le_of_ble_eq_true rfl) (Nat.le_of_ble_eq_true rfl) (t212 h14) ?_
        refine mGo.steps 2 (c' := (215, List.drop 35 mC215, [.ref p0, .int p1, .int p2, .int (s.1 - q13.1), .int s.2.1, w5, w6, w7, w8], [], q13.2)) rfl ?_
        exact t215L7_35 p0 p1 p2 q13.2 (s.1 - q13.1) s.2.1 w5 hw5 w6 hw6 w7 hw7 w8 hw8 hr hC
theorem t215L7l (p0 : Nat) (p1 : Int32) (p2 : Int32) {r : Option Value × mM} (n : Nat) (s : Int32 × Int32 × mM) (o : (Int32 × mM) ⊕ mM) (hr : mLoop (s215L7 p0 p1 p2) n s = some o) (hC : Sum.elim (fun x : Int32 × mM => ∀ (w4 : Value) (hw4 : mNotL w4 = true) (w5 : Value) (hw5 : mNotL w5 = true) (w6 : Value) (hw6 : mNotL w6 = true) (w7 : Value) (hw7 : mNotL w7 = true) (w8 : Value) (hw8 : mNotL w8 = true), mGo mG (215, List.drop 37 mC215, [.ref p0, .int p1, .int p2, .int x.1, w4, w5, w6, w7, w8], [], x.2) r) (fun y : mM => r = (none, y)) o) : ∀ (w5 : Value) (hw5 : mNotL w5 = true) (w6 : Value) (hw6 : mNotL w6 = true) (w7 : Value) (hw7 : mNotL w7 = true) (w8 : Value) (hw8 : mNotL w8 = true), mGo mG (215, List.drop 7 mC215, [.ref p0, .int p1, .int p2, .int s.1, .int s.2.1, w5, w6, w7, w8], [], s.2.2) r :=
  mLoop_go (Hd := (fun s' : Int32 × Int32 × mM => ∀ (w5 : Value) (hw5 : mNotL w5 = true) (w6 : Value) (hw6 : mNotL w6 = true) (w7 : Value) (hw7 : mNotL w7 = true) (w8 : Value) (hw8 : mNotL w8 = true), mGo mG (215, List.drop 7 mC215, [.ref p0, .int p1, .int p2, .int s'.1, .int s'.2.1, w5, w6, w7, w8], [], s'.2.2) r)) (fun s o hb hC => t215L7 p0 p1 p2 s o hb hC) n s o hr hC
def s215L59_104 (p0 : Nat) (p1 : Int32) (p2 : Int32) (p4 : Int32) (μ : mM) (v3 : Int32) (v6 : Int32) (v7 : Int32) (t0 : Int32) : Option ((Int32 × Int32 × Int32 × Int32 × mM) ⊕ ((Int32 × mM) ⊕ mM)) :=
  some (.inl (v3, t0, v6, v7, μ))
set_option maxRecDepth 20000 in
theorem t215L59_104 (p0 : Nat) (p1 : Int32) (p2 : Int32) (p4 : Int32) (μ : mM) (v3 : Int32) (v6 : Int32) (v7 : Int32) (t0 : Int32) (w5 : Value) (hw5 : mNotL w5 = true) (w8 : Value) (hw8 : mNotL w8 = true) {o : ((Int32 × Int32 × Int32 × Int32 × mM) ⊕ ((Int32 × mM) ⊕ mM))} {r : Option Value × mM} (hr : s215L59_104 p0 p1 p2 p4 μ v3 v6 v7 t0 = some o) (hC : Sum.elim (fun s' : Int32 × Int32 × Int32 × Int32 × mM => ∀ (w8 : Value) (hw8 : mNotL w8 = true), mGo mG (215, List.drop 59 mC215, [.ref p0, .int p1, .int p2, .int s'.1, .int p4, .int s'.2.1, .int s'.2.2.1, .int s'.2.2.2.1, w8], [], s'.2.2.2.2) r) (Sum.elim (fun x : Int32 × mM => ∀ (w3 : Value) (hw3 : mNotL w3 = true) (w4 : Value) (hw4 : mNotL w4 = true) (w6 : Value) (hw6 : mNotL w6 = true) (w7 : Value) (hw7 : mNotL w7 = true) (w8 : Value) (hw8 : mNotL w8 = true), mGo mG (215, List.drop 106 mC215, [.ref p0, .int p1, .int p2, w3, w4, .int x.1, w6, w7, w8], [], x.2) r) (fun y : mM => r = (none, y))) o) : mGo mG (215, List.drop 104 mC215, [.ref p0, .int p1, .int p2, .int v3, .int p4, w5, .int v6, .int v7, w8], [.int t0], μ) r := by
  unfold s215L59_104 at hr
  refine mGo.steps 2 (c' := (215, List.drop 59 mC215, [.ref p0, .int p1, .int p2, .int v3, .int p4, .int t0, .int v6, .int v7, w8], [], μ)) rfl ?_
  obtain rfl := Option.some.inj hr
  exact hC w8 hw8
def s215L59_98 (p0 : Nat) (p1 : Int32) (p2 : Int32) (p4 : Int32) (μ : mM) (v3 : Int32) (v5 : Int32) (v7 : Int32) (v8 : Int32) (t0 : Int32) : Option ((Int32 × Int32 × Int32 × Int32 × mM) ⊕ ((Int32 × mM) ⊕ mM)) :=
  if v8 ≤ 0 then (s215L59_104 p0 p1 p2 p4 μ v3 t0 v7 v5) else (s215L59_104 p0 p1 p2 p4 μ v3 t0 v7 v7)
set_option maxRecDepth 20000 in
theorem t215L59_98 (p0 : Nat) (p1 : Int32) (p2 : Int32) (p4 : Int32) (μ : mM) (v3 : Int32) (v5 : Int32) (v7 : Int32) (v8 : Int32) (t0 : Int32) (w6 : Value) (hw6 : mNotL w6 = true) {o : ((Int32 × Int32 × Int32 × Int32 × mM) ⊕ ((Int32 × mM) ⊕ mM))} {r : Option Value × mM} (hr : s215L59_98 p0 p1 p2 p4 μ v3 v5 v7 v8 t0 = some o) (hC : Sum.elim (fun s' : Int32 × Int32 × Int32 × Int32 × mM => ∀ (w8 : Value) (hw8 : mNotL w8 = true), mGo mG (215, List.drop 59 mC215, [.ref p0, .int p1, .int p2, .int s'.1, .int p4, .int s'.2.1, .int s'.2.2.1, .int s'.2.2.2.1, w8], [], s'.2.2.2.2) r) (Sum.elim (fun x : Int32 × mM => ∀ (w3 : Value) (hw3 : mNotL w3 = true) (w4 : Value) (hw4 : mNotL w4 = true) (w6 : Value) (hw6 : mNotL w6 = true) (w7 : Value) (hw7 : mNotL w7 = true) (w8 : Value) (hw8 : mNotL w8 = true), mGo mG (215, List.drop 106 mC215, [.ref p0, .int p1, .int p2, w3, w4, .int x.1, w6, w7, w8], [], x.2) r) (fun y : mM => r = (none, y))) o) : mGo mG (215, List.drop 98 mC215, [.ref p0, .int p1, .int p2, .int v3, .int p4, .int v5, w6, .int v7, .int v8], [.int t0], μ) r := by
  unfold s215L59_98 at hr
  refine mGo.steps 2 (c' := (215, List.drop 100 mC215, [.ref p0, .int p1, .int p2, .int v3, .int p4, .int v5, .int t0, .int v7, .int v8], [.int v8], μ)) rfl ?_
  rcases mIte hr with ⟨h36, hr⟩ | ⟨h36, hr⟩
  · refine gBrT (p := v8 ≤ 0) (y := 215) (is := List.drop 101 mC215) (L := [.ref p0, .int p1, .int p2, .int v3, .int p4, .int v5, .int t0, .int v7, .int v8]) (st := []) (μ := μ) (t := 180) rfl h36 ?_
    refine mGo.steps 1 (c' := (215, List.drop 104 mC215, [.ref p0, .int p1, .int p2, .int v3, .int p4, .int v5, .int t0, .int v7, .int v8], [.int v5], μ)) rfl ?_
    exact t215L59_104 p0 p1 p2 p4 μ v3 t0 v7 v5 (.int v5) rfl (.int v8) rfl hr hC
  · refine gBrF (p := v8 ≤ 0) (y := 215) (is := List.drop 101 mC215) (L := [.ref p0, .int p1, .int p2, .int v3, .int p4, .int v5, .int t0, .int v7, .int v8]) (st := []) (μ := μ) (t := 180) rfl h36 ?_
    refine mGo.steps 2 (c' := (215, List.drop 104 mC215, [.ref p0, .int p1, .int p2, .int v3, .int p4, .int v5, .int t0, .int v7, .int v8], [.int v7], μ)) rfl ?_
    exact t215L59_104 p0 p1 p2 p4 μ v3 t0 v7 v7 (.int v5) rfl (.int v8) rfl hr hC
def s215L59_84 (p0 : Nat) (p1 : Int32) (p2 : Int32) (p4 : Int32) (μ : mM) (v3 : Int32) (v5 : Int32) (v6 : Int32) (v7 : Int32) (t0 : Int32) (t1 : Int32) (t2 : Int32) (t3 : Int32) (t4 : Int32) (t5 : Nat) : Option ((Int32 × Int32 × Int32 × Int32 × mM) ⊕ ((Int32 × mM) ⊕ mM)) :=
  (s145 μ t1 t0).bind fun q31 => if (mS μ t5).1 = 9 then (s212 μ t5 t4 t3 t2 q31).bind fun q34 => if q34.1 ≤ 0 then (s215L59_98 p0 p1 p2 p4 q34.2 (v3 - q34.1) v5 v7 q34.1 (v6 + 1)) else (s215L59_98 p0 p1 p2 p4 q34.2 (v3 - q34.1) v5 v7 q34.1 0) else none
set_option maxRecDepth 20000 in
theorem t215L59_84 (p0 : Nat) (p1 : Int32) (p2 : Int32) (p4 : Int32) (μ : mM) (v3 : Int32) (v5 : Int32) (v6 : Int32) (v7 : Int32) (t0 : Int32) (t1 : Int32) (t2 : Int32) (t3 : Int32) (t4 : Int32) (t5 : Nat) (w8 : Value) (hw8 : mNotL w8 = true) {o : ((Int32 × Int32 × Int32 × Int32 × mM) ⊕ ((Int32 × mM) ⊕ mM))} {r : Option Value × mM} (hr : s215L59_84 p0 p1 p2 p4 μ v3 v5 v6 v7 t0 t1 t2 t3 t4 t5 = some o) (hC : Sum.elim (fun s' : Int32 × Int32 × Int32 × Int32 × mM => ∀ (w8 : Value) (hw8 : mNotL w8 = true), mGo mG (215, List.drop 59 mC215, [.ref p0, .int p1, .int p2, .int s'.1, .int p4, .int s'.2.1, .int s'.2.2.1, .int s'.2.2.2.1, w8], [], s'.2.2.2.2) r) (Sum.elim (fun x : Int32 × mM => ∀ (w3 : Value) (hw3 : mNotL w3 = true) (w4 : Value) (hw4 : mNotL w4 = true) (w6 : Value) (hw6 : mNotL w6 = true) (w7 : Value) (hw7 : mNotL w7 = true) (w8 : Value) (hw8 : mNotL w8 = true), mGo mG (215, List.drop 106 mC215, [.ref p0, .int p1, .int p2, w3, w4, .int x.1, w6, w7, w8], [], x.2) r) (fun y : mM => r = (none, y))) o) : mGo mG (215, List.drop 84 mC215, [.ref p0, .int p1, .int p2, .int v3, .int p4, .int v5, .int v6, .int v7, w8], [.int t0, .int t1, .int t2, .int t3, .int t4, .ref t5], μ) r := by
  unfold s215L59_84 at hr
  obtain ⟨q31, h32, hr⟩ := mBi hr
  refine mGo.call (z := 145) (as := [.int t1, .int t0]) (y := 215) (is := List.drop 85 mC215) (L := [.ref p0, .int p1, .int p2, .int v3, .int p4, .int v5, .int v6, .int v7, w8]) (st := [.int t2, .int t3, .int t4, .ref t5]) (μ := μ) rfl (t145 h32) ?_
  obtain ⟨h33, hr⟩ := mIf hr
  obtain ⟨q34, h35, hr⟩ := mBi hr
  refine gCall (z := 212) (n := 4) (f := 0) (kind := 1) (a := t5) (As := [.int t4, .int t3, .int t2, .int q31]) (y := 215) (is := List.drop 86 mC215) (L := [.ref p0, .int p1, .int p2, .int v3, .int p4, .int v5, .int v6, .int v7, w8]) (rest := []) (μ := μ) rfl (by decide) (by decide) ⟨rfl, rfl⟩ rfl h33 (Nat.le_of_ble_eq_true rfl) (Nat.le_of_ble_eq_true rfl) (t212 h35) ?_
  refine mGo.steps 6 (c' := (215, List.drop 92 mC215, [.ref p0, .int p1, .int p2, .int (v3 - q34.1), .int p4, .int v5, .int v6, .int v7, .int q34.1], [.int q34.1], q34.2)) rfl ?_
  rcases mIte hr with ⟨h37, hr⟩ | ⟨h37, hr⟩
  · refine gBrT (p := q34.1 ≤ 0) (y := 215) (is := List.drop 93 mC215) (L := [.ref p0, .int p1, .int p2, .int (v3 - q34.1), .int p4, .int v5, .int v6, .int v7, .int q34.1]) (st := []) (μ := q34.2) (t := 164) rfl h37 ?_
    refine mGo.steps 3 (c' := (215, List.drop 98 mC215, [.ref p0, .int p1, .int p2, .int (v3 - q34.1), .int p4, .int v5, .int v6, .int v7, .int q34.1], [.int (v6 + 1)], q34.2)) rfl ?_
    exact t215L59_98 p0 p1 p2 p4 q34.2 (v3 - q34.1) v5 v7 q34.1 (v6 + 1) (.int v6) rfl hr hC
  · refine gBrF (p := q34.1 ≤ 0) (y := 215) (is := List.drop 93 mC215) (L := [.ref p0, .int p1, .int p2, .int (v3 - q34.1), .int p4, .int v5, .int v6, .int v7, .int q34.1]) (st := []) (μ := q34.2) (t := 164) rfl h37 ?_
    refine mGo.steps 2 (c' := (215, List.drop 98 mC215, [.ref p0, .int p1, .int p2, .int (v3 - q34.1), .int p4, .int v5, .int v6, .int v7, .int q34.1], [.int 0], q34.2)) rfl ?_
    exact t215L59_98 p0 p1 p2 p4 q34.2 (v3 - q34.1) v5 v7 q34.1 0 (.int v6) rfl hr hC
def s215L59 (p0 : Nat) (p1 : Int32) (p2 : Int32) (p4 : Int32) (s : Int32 × Int32 × Int32 × Int32 × mM) : Option ((Int32 × Int32 × Int32 × Int32 × mM) ⊕ ((Int32 × mM) ⊕ mM)) :=
  if s.1 ≤ 0 then (some (.inr (.inl (s.2.1, s.2.2.2.2)))) else (if p4 ≤ s.2.2.1 then (some (.inr (.inl (s.2.1, s.2.2.2.2)))) else (if (mS s.2.2.2.2 p0).1 = 9 then (s213 s.2.2.2.2 p0 p1 p2 s.2.2.2.1).bind fun q27 => (s159 s.2.2.2.2 p0 q27 1).bind fun q29 => if ¬ q29 = 1 then (s215L59_84 p0 p1 p2 p4 s.2.2.2.2 s.1 s.2.1 s.2.2.1 q27 1 s.1 p2 p1 q27 p0) else (s215L59_84 p0 p1 p2 p4 s.2.2.2.2 s.1 s.2.1 s.2.2.1 q27 2 s.1 p2 p1 q27 p0) else none))
set_option maxRecDepth 20000 in
theorem t215L59 (p0 : Nat) (p1 : Int32) (p2 : Int32) (p4 : Int32) {r : Option Value × mM} (s : Int32 × Int32 × Int32 × Int32 × mM) (o : ((Int32 × Int32 × Int32 × Int32 × mM) ⊕ ((Int32 × mM) ⊕ mM))) (hr : s215L59 p0 p1 p2 p4 s = some o) (hC : Sum.elim (fun s' : Int32 × Int32 × Int32 × Int32 × mM => ∀ (w8 : Value) (hw8 : mNotL w8 = true), mGo mG (215, List.drop 59 mC215, [.ref p0, .int p1, .int p2, .int s'.1, .int p4, .int s'.2.1, .int s'.2.2.1, .int s'.2.2.2.1, w8], [], s'.2.2.2.2) r) (Sum.elim (fun x : Int32 × mM => ∀ (w3 : Value) (hw3 : mNotL w3 = true) (w4 : Value) (hw4 : mNotL w4 = true) (w6 : Value) (hw6 : mNotL w6 = true) (w7 : Value) (hw7 : mNotL w7 = true) (w8 : Value) (hw8 : mNotL w8 = true), mGo mG (215, List.drop 106 mC215, [.ref p0, .int p1, .int p2, w3, w4, .int x.1, w6, w7, w8], [], x.2) r) (fun y : mM => r = (none, y))) o) : ∀ (w8 : Value) (hw8 : mNotL w8 = true), mGo mG (215, List.drop 59 mC215, [.ref p0, .int p1, .int p2, .int s.1, .int p4, .int s.2.1, .int s.2.2.1, .int s.2.2.2.1, w8], [], s.2.2.2.2) r := by
  intro w8 hw8
  unfold s215L59 at hr
  refine mGo.steps 1 (c' := (215, List.drop 60 mC215, [.ref p0, .int p1, .int p2, .int s.1, .int p4, .int s.2.1, .int s.2.2.1, .int s.2.2.2.1, w8], [.int s.1], s.2.2.2.2)) rfl ?_
  rcases mIte hr with ⟨h40, hr⟩ | ⟨h40, hr⟩
  · refine gBrT (p := s.1 ≤ 0) (y := 215) (is := List.drop 61 mC215) (L := [.ref p0, .int p1, .int p2, .int s.1, .int p4, .int s.2.1, .int s.2.2.1, .int s.2.2.2.1, w8]) (st := []) (μ := s.2.2.2.2) (t := 187) rfl h40 ?_
    obtain rfl := Option.some.inj hr
    exact hC (.int s.1) rfl (.int p4) rfl (.int s.2.2.1) rfl (.int s.2.2.2.1) rfl w8 hw8
  · refine gBrF (p := s.1 ≤ 0) (y := 215) (is := List.drop 61 mC215) (L := [.ref p0, .int p1, .int p2, .int s.1, .int p4, .int s.2.1, .int s.2.2.1, .int s.2.2.2.1, w8]) (st := []) (μ := s.2.2.2.2) (t := 187) rfl h40 ?_
    refine mGo.steps 2 (c' := (215, List.drop 63 mC215, [.ref p0, .int p1, .int p2, .int s.1, .int p4, .int s.2.1, .int s.2.2.1, .int s.2.2.2.1, w8], [.int p4, .int s.2.2.1], s.2.2.2.2)) rfl ?_
    rcases mIte hr with ⟨h39, hr⟩ | ⟨h39, hr⟩
    · refine gBrT (p := p4 ≤ s.2.2.1) (y := 215) (is := List.drop 64 mC215) (L := [.ref p0, .int p1, .int p2, .int s.1, .int p4, .int s.2.1, .int s.2.2.1, .int s.2.2.2.1, w8]) (st := []) (μ := s.2.2.2.2) (t := 187) rfl h39 ?_
      obtain rfl := Option.some.inj hr
      exact hC (.int s.1) rfl (.int p4) rfl (.int s.2.2.1) rfl (.int s.2.2.2.1) rfl w8 hw8
    · refine gBrF (p := p4 ≤ s.2.2.1) (y := 215) (is := List.drop 64 mC215) (L := [.ref p0, .int p1, .int p2, .int s.1, .int p4, .int s.2.1, .int s.2.2.1, .int s.2.2.2.1, w8]) (st := []) (μ := s.2.2.2.2) (t := 187) rfl h39 ?_
      refine mGo.steps 4 (c' := (215, List.drop 68 mC215, [.ref p0, .int p1, .int p2, .int s.1, .int p4, .int s.2.1, .int s.2.2.1, .int s.2.2.2.1, w8], [.int s.2.2.2.1, .int p2, .int p1, .ref p0], s.2.2.2.2)) rfl ?_
      obtain ⟨h26, hr⟩ := mIf hr
      obtain ⟨q27, h28, hr⟩ := mBi hr
      refine gCall (z := 213) (n := 3) (f := 0) (kind := 1) (a := p0) (As := [.int p1, .int p2, .int s.2.2.2.1]) (y := 215) (is := List.drop 69 mC215) (L := [.ref p0, .int p1, .int p2, .int s.1, .int p4, .int s.2.1, .int s.2.2.1, .int s.2.2.2.1, w8]) (rest := []) (μ := s.2.2.2.2) rfl (by decide) (by decide) ⟨rfl, rfl⟩ rfl h26 (Nat.le_of_ble_eq_true rfl) (Nat.le_of_ble_eq_true rfl) (t213 h28) ?_
      refine mGo.steps 9 (c' := (215, List.drop 78 mC215, [.ref p0, .int p1, .int p2, .int s.1, .int p4, .int s.2.1, .int s.2.2.1, .int q27, w8], [.int 1, .int q27, .ref p0, .int s.1, .int p2, .int p1, .int q27, .ref p0], s.2.2.2.2)) rfl ?_
      obtain ⟨q29, h30, hr⟩ := mBi hr
      refine gCall (z := 159) (n := 2) (f := 0) (kind := 1) (a := p0) (As := [.int q27, .int 1]) (y := 215) (is := List.drop 79 mC215) (L := [.ref p0, .int p1, .int p2, .int s.1, .int p4, .int s.2.1, .int s.2.2.1, .int q27, w8]) (rest := [.int s.1, .int p2, .int p1, .int q27, .ref p0]) (μ := s.2.2.2.2) rfl (by decide) (by decide) ⟨rfl, rfl⟩ rfl h26 (Nat.le_of_ble_eq_true rfl) (Nat.le_of_ble_eq_true rfl) (t159 h30) ?_
      refine mGo.steps 1 (c' := (215, List.drop 80 mC215, [.ref p0, .int p1, .int p2, .int s.1, .int p4, .int s.2.1, .int s.2.2.1, .int q27, w8], [.int 1, .int q29, .int s.1, .int p2, .int p1, .int q27, .ref p0], s.2.2.2.2)) rfl ?_
      rcases mIte hr with ⟨h38, hr⟩ | ⟨h38, hr⟩
      · refine gBrT (p := ¬ q29 = 1) (y := 215) (is := List.drop 81 mC215) (L := [.ref p0, .int p1, .int p2, .int s.1, .int p4, .int s.2.1, .int s.2.2.1, .int q27, w8]) (st := [.int s.1, .int p2, .int p1, .int q27, .ref p0]) (μ := s.2.2.2.2) (t := 141) rfl h38 ?_
        refine mGo.steps 1 (c' := (215, List.drop 84 mC215, [.ref p0, .int p1, .int p2, .int s.1, .int p4, .int s.2.1, .int s.2.2.1, .int q27, w8], [.int 1, .int s.1, .int p2, .int p1, .int q27, .ref p0], s.2.2.2.2)) rfl ?_
        exact t215L59_84 p0 p1 p2 p4 s.2.2.2.2 s.1 s.2.1 s.2.2.1 q27 1 s.1 p2 p1 q27 p0 w8 hw8 hr hC
      · refine gBrF (p := ¬ q29 = 1) (y := 215) (is := List.drop 81 mC215) (L := [.ref p0, .int p1, .int p2, .int s.1, .int p4, .int s.2.1, .int s.2.2.1, .int q27, w8]) (st := [.int s.1, .int p2, .int p1, .int q27, .ref p0]) (μ := s.2.2.2.2) (t := 141) rfl h38 ?_
        refine mGo.steps 2 (c' := (215, List.drop 84 mC215, [.ref p0, .int p1, .int p2, .int s.1, .int p4, .int s.2.1, .int s.2.2.1, .int q27, w8], [.int 2, .int s.1, .int p2, .int p1, .int q27, .ref p0], s.2.2.2.2)) rfl ?_
        exact t215L59_84 p0 p1 p2 p4 s.2.2.2.2 s.1 s.2.1 s.2.2.1 q27 2 s.1 p2 p1 q27 p0 w8 hw8 hr hC
theorem t215L59l (p0 : Nat) (p1 : Int32) (p2 : Int32) (p4 : Int32) {r : Option Value × mM} (n : Nat) (s : Int32 × Int32 × Int32 × Int32 × mM) (o : (Int32 × mM) ⊕ mM) (hr : mLoop (s215L59 p0 p1 p2 p4) n s = some o) (hC : Sum.elim (fun x : Int32 × mM => ∀ (w3 : Value) (hw3 : mNotL w3 = true) (w4 : Value) (hw4 : mNotL w4 = true) (w6 : Value) (hw6 : mNotL w6 = true) (w7 : Value) (hw7 : mNotL w7 = true) (w8 : Value) (hw8 : mNotL w8 = true), mGo mG (215, List.drop 106 mC215, [.ref p0, .int p1, .int p2, w3, w4, .int x.1, w6, w7, w8], [], x.2) r) (fun y : mM => r = (none, y)) o) : ∀ (w8 : Value) (hw8 : mNotL w8 = true), mGo mG (215, List.drop 59 mC215, [.ref p0, .int p1, .int p2, .int s.1, .int p4, .int s.2.1, .int s.2.2.1, .int s.2.2.2.1, w8], [], s.2.2.2.2) r :=
  mLoop_go (Hd := (fun s' : Int32 × Int32 × Int32 × Int32 × mM => ∀ (w8 : Value) (hw8 : mNotL w8 = true), mGo mG (215, List.drop 59 mC215, [.ref p0, .int p1, .int p2, .int s'.1, .int p4, .int s'.2.1, .int s'.2.2.1, .int s'.2.2.2.1, w8], [], s'.2.2.2.2) r)) (fun s o hb hC => t215L59 p0 p1 p2 p4 s o hb hC) n s o hr hC
def s215_106 (a0 : Nat) (a1 : Int32) (a2 : Int32) (μ : mM) (v5 : Int32) : Option mM :=
  if (mS μ a0).1 = 9 then if (mS μ (mP μ a0 0)).1 = 10 ∧ mInb ((412 + (2 * a1)) + a2) (mS μ (mP μ a0 0)).2 then (some (mUI μ (mP μ a0 0) (Int32.toNatClampNeg ((412 + (2 * a1)) + a2)) (v5 + 1))).bind fun μ47 => some μ47 else none else none
set_option maxRecDepth 20000 in
theorem t215_106 (a0 : Nat) (a1 : Int32) (a2 : Int32) (μ : mM) (v5 : Int32) (w3 : Value) (hw3 : mNotL w3 = true) (w4 : Value) (hw4 : mNotL w4 = true) (w6 : Value) (hw6 : mNotL w6 = true) (w7 : Value) (hw7 : mNotL w7 = true) (w8 : Value) (hw8 : mNotL w8 = true) {o : mM} {r : Option Value × mM} (hr : s215_106 a0 a1 a2 μ v5 = some o) (hC : r = (none, o)) : mGo mG (215, List.drop 106 mC215, [.ref a0, .int a1, .int a2, w3, w4, .int v5, w6, w7, w8], [], μ) r := by
  unfold s215_106 at hr
  refine mGo.steps 1 (c' := (215, List.drop 107 mC215, [.ref a0, .int a1, .int a2, w3, w4, .int v5, w6, w7, w8], [.ref a0], μ)) rfl ?_
  obtain ⟨h45, hr⟩ := mIf hr
  refine gGet (is := List.drop 108 mC215) (v := .ref (mP μ a0 0)) h45 rfl ?_
  refine mGo.steps 10 (c' := (215, List.drop 118 mC215, [.ref a0, .int a1, .int a2, w3, w4, .int v5, w6, w7, w8], [.int (v5 + 1), .int ((412 + (2 * a1)) + a2), .ref (mP μ a0 0)], μ)) rfl ?_
  obtain ⟨h46, hr⟩ := mIf hr
  replace hr := mBs hr
  refine gIast (is := List.drop 119 mC215) h46 ?_
  let μ47 : mM := mUI μ (mP μ a0 0) (Int32.toNatClampNeg ((412 + (2 * a1)) + a2)) (v5 + 1)
  obtain rfl := Option.some.inj hr
  rw [show r = _ from hC]
  exact gVret rfl
def s215 (μ : mM) (a0 : Nat) (a1 : Int32) (a2 : Int32) : Option mM :=
  if (mS μ a0).1 = 9 then (s156 μ a0 a1 a2).bind fun q2 => (mLoop (s215L7 a0 a1 a2) 1000 (q2, 0, μ)).bind fun o18 => Sum.elim (fun x19 => if (mS x19.2 a0).1 = 9 then (s214 x19.2 a0 a1 a2).bind fun q23 => if (mS x19.2 (mP x19.2 a0 0)).1 = 10 ∧ mInb ((412 + (2 * a1)) + a2) (mS x19.2 (mP x19.2 a0 0)).2 then (mLoop (s215L59 a0 a1 a2 q23) 1000 (x19.1, (mI x19.2 (mP x19.2 a0 0) (Int32.toNatClampNeg ((412 + (2 * a1)) + a2))) - 1, 0, (mI x19.2 (mP x19.2 a0 0) (Int32.toNatClampNeg ((412 + (2 * a1)) + a2))) - 1, x19.2)).bind fun o41 => Sum.elim (fun x42 => s215_106 a0 a1 a2 x42.2 x42.1) (fun y43 => some y43) o41 else none else none) (fun y20 => some y20) o18 else none
set_option maxRecDepth 20000 in
theorem t215 {μ : mM} {a0 : Nat} {a1 : Int32} {a2 : Int32} {o : mM} (hr : s215 μ a0 a1 a2 = some o) : mEv mG 215 [.ref a0, .int a1, .int a2] μ (none) (o) := by
  obtain ⟨r, hC⟩ : ∃ r : Option Value × mM, r = (none, o) := ⟨_, rfl⟩
  show mGo mG (215, List.drop 0 mC215, [.ref a0, .int a1, .int a2, .retAddr 0, .retAddr 0, .retAddr 0, .retAddr 0, .retAddr 0, .retAddr 0], [], μ) (none, o)
  rw [← hC]
  unfold s215 at hr
  refine mGo.steps 3 (c' := (215, List.drop 3 mC215, [.ref a0, .int a1, .int a2, .retAddr 0, .retAddr 0, .retAddr 0, .retAddr 0, .retAddr 0, .retAddr 0], [.int a2, .int a1, .ref a0], μ)) rfl ?_
  obtain ⟨h1, hr⟩ := mIf hr
  obtain ⟨q2, h3, hr⟩ := mBi hr
  refine gCall (z := 156) (n := 2) (f := 0) (kind := 1) (a := a0) (As := [.int a1, .int a2]) (y := 215) (is := List.drop 4 mC215) (L := [.ref a0, .int a1, .int a2, .retAddr 0, .retAddr 0, .retAddr 0, .retAddr 0, .retAddr 0, .retAddr 0]) (rest := []) (μ := μ) rfl (by decide) (by decide) ⟨rfl, rfl⟩ rfl h1 (Nat.le_of_ble_eq_true rfl) (Nat.le_of_ble_eq_true rfl) (t156 h3) ?_
  refine mGo.steps 3 (c' := (215, List.drop 7 mC215, [.ref a0, .int a1, .int a2, .int q2, .int 0, .retAddr 0, .retAddr 0, .retAddr 0, .retAddr 0], [], μ)) rfl ?_
  obtain ⟨o18, h21, hr⟩ := mBi hr
  refine t215L7l a0 a1 a2 1000 (q2, 0, μ) o18 h21 ?_ (.retAddr 0) rfl (.retAddr 0) rfl (.retAddr 0) rfl (.retAddr 0) rfl
  cases o18 with
  | inl x19 =>
    show ∀ (w4 : Value) (hw4 : mNotL w4 = true) (w5 : Value) (hw5 : mNotL w5 = true) (w6 : Value) (hw6 : mNotL w6 = true) (w7 : Value) (hw7 : mNotL w7 = true) (w8 : Value) (hw8 : mNotL w8 = true), mGo mG (215, List.drop 37 mC215, [.ref a0, .int a1, .int a2, .int x19.1, w4, w5, w6, w7, w8], [], x19.2) r
    intro w4 hw4 w5 hw5 w6 hw6 w7 hw7 w8 hw8
    replace hr : (_) = some _ := hr
    refine mGo.steps 3 (c' := (215, List.drop 40 mC215, [.ref a0, .int a1, .int a2, .int x19.1, w4, w5, w6, w7, w8], [.int a2, .int a1, .ref a0], x19.2)) rfl ?_
    obtain ⟨h22, hr⟩ := mIf hr
    obtain ⟨q23, h24, hr⟩ := mBi hr
    refine gCall (z := 214) (n := 2) (f := 0) (kind := 1) (a := a0) (As := [.int a1, .int a2]) (y := 215) (is := List.drop 41 mC215) (L := [.ref a0, .int a1, .int a2, .int x19.1, w4, w5, w6, w7, w8]) (rest := []) (μ := x19.2) rfl (by decide) (by decide) ⟨rfl, rfl⟩ rfl h22 (Nat.le_of_ble_eq_true rfl) (Nat.le_of_ble_eq_true rfl) (t214 h24) ?_
    refine mGo.steps 2 (c' := (215, List.drop 43 mC215, [.ref a0, .int a1, .int a2, .int x19.1, .int q23, w5, w6, w7, w8], [.ref a0], x19.2)) rfl ?_
    refine gGet (is := List.drop 44 mC215) (v := .ref (mP x19.2 a0 0)) h22 rfl ?_
    refine mGo.steps 7 (c' := (215, List.drop 51 mC215, [.ref a0, .int a1, .int a2, .int x19.1, .int q23, w5, w6, w7, w8], [.int ((412 + (2 * a1)) + a2), .ref (mP x19.2 a0 0)], x19.2)) rfl ?_
    obtain ⟨h25, hr⟩ := mIf hr
    refine gIald (is := List.drop 52 mC215) h25 ?_
    refine mGo.steps 7 (c' := (215, List.drop 59 mC215, [.ref a0, .int a1, .int a2, .int x19.1, .int q23, .int ((mI x19.2 (mP x19.2 a0 0) (Int32.toNatClampNeg ((412 + (2 * a1)) + a2))) - 1), .int 0, .int ((mI x19.2 (mP x19.2 a0 0) (Int32.toNatClampNeg ((412 + (2 * a1)) + a2))) - 1), w8], [], x19.2)) rfl ?_
    obtain ⟨o41, h44, hr⟩ := mBi hr
    refine t215L59l a0 a1 a2 q23 1000 (x19.1, (mI x19.2 (mP x19.2 a0 0) (Int32.toNatClampNeg ((412 + (2 * a1)) + a2))) - 1, 0, (mI x19.2 (mP x19.2 a0 0) (Int32.toNatClampNeg ((412 + (2 * a1)) + a2))) - 1, x19.2) o41 h44 ?_ w8 hw8
    cases o41 with
    | inl x42 =>
      show ∀ (w3 : Value) (hw3 : mNotL w3 = true) (w4 : Value) (hw4 : mNotL w4 = true) (w6 : Value) (hw6 : mNotL w6 = true) (w7 : Value) (hw7 : mNotL w7 = true) (w8 : Value) (hw8 : mNotL w8 = true), mGo mG (215, List.drop 106 mC215, [.ref a0, .int a1, .int a2, w3, w4, .int x42.1, w6, w7, w8], [], x42.2) r
      intro w3 hw3 w4 hw4 w6 hw6 w7 hw7 w8 hw8
      replace hr : (_) = some _ := hr
      exact t215_106 a0 a1 a2 x42.2 x42.1 w3 hw3 w4 hw4 w6 hw6 w7 hw7 w8 hw8 hr hC
    | inr y43 =>
      obtain rfl := Option.some.inj hr
      exact hC
  | inr y20 =>
    obtain rfl := Option.some.inj hr
    exact hC

/-! 216: TunnelFabricModel.moves()I -/
def s216L4L9_62 (p0 : Nat) (p1 : Int32) (p2 : Int32) (μ : mM) (v3 : Int32) (v4 : Int32) (v5 : Int32) : Option ((Int32 × mM) ⊕ ((mM) ⊕ (Int32 × mM))) :=
  if (mS μ p0).1 = 9 then if (mS μ (mP μ p0 0)).1 = 10 ∧ mInb (v5 + 2) (mS μ (mP μ p0 0)).2 then (some (mUI μ (mP μ p0 0) (Int32.toNatClampNeg (v5 + 2)) ((mI μ (mP μ p0 0) (Int32.toNatClampNeg (v5 + 2))) + v4))).bind fun μ7 => some (.inl (v3 + 1, μ7)) else none else none
set_option maxRecDepth 20000 in
theorem t216L4L9_62 (p0 : Nat) (p1 : Int32) (p2 : Int32) (μ : mM) (v3 : Int32) (v4 : Int32) (v5 : Int32) {o : ((Int32 × mM) ⊕ ((mM) ⊕ (Int32 × mM)))} {r : Option Value × mM} (hr : s216L4L9_62 p0 p1 p2 μ v3 v4 v5 = some o) (hC : Sum.elim (fun s' : Int32 × mM => ∀ (w4 : Value) (hw4 : mNotL w4 = true) (w5 : Value) (hw5 : mNotL w5 = true), mGo mG (216, List.drop 9 mC216, [.ref p0, .int p1, .int p2, .int s'.1, w4, w5], [], s'.2) r) (Sum.elim (fun x : mM => ∀ (w3 : Value) (hw3 : mNotL w3 = true) (w4 : Value) (hw4 : mNotL w4 = true) (w5 : Value) (hw5 : mNotL w5 = true), mGo mG (216, List.drop 74 mC216, [.ref p0, .int p1, .int p2, w3, w4, w5], [], x) r) (fun y : (Int32 × mM) => r = (some (.int y.1), y.2))) o) : mGo mG (216, List.drop 62 mC216, [.ref p0, .int p1, .int p2, .int v3, .int v4, .int v5], [], μ) r := by
  unfold s216L4L9_62 at hr
  refine mGo.steps 1 (c' := (216, List.drop 63 mC216, [.ref p0, .int p1, .int p2, .int v3, .int v4, .int v5], [.ref p0], μ)) rfl ?_
  obtain ⟨h5, hr⟩ := mIf hr
  refine gGet (is := List.drop 64 mC216) (v := .ref (mP μ p0 0)) h5 rfl ?_
  refine mGo.steps 4 (c' := (216, List.drop 68 mC216, [.ref p0, .int p1, .int p2, .int v3, .int v4, .int v5], [.int (v5 + 2), .ref (mP μ p0 0), .int (v5 + 2), .ref (mP μ p0 0)], μ)) rfl ?_
  obtain ⟨h6, hr⟩ := mIf hr
  refine gIald (is := List.drop 69 mC216) h6 ?_
  refine mGo.steps 2 (c' := (216, List.drop 71 mC216, [.ref p0, .int p1, .int p2, .int v3, .int v4, .int v5], [.int ((mI μ (mP μ p0 0) (Int32.toNatClampNeg (v5 + 2))) + v4), .int (v5 + 2), .ref (mP μ p0 0)], μ)) rfl ?_
  replace hr := mBs hr
  refine gIast (is := List.drop 72 mC216) h6 ?_
  let μ7 : mM := mUI μ (mP μ p0 0) (Int32.toNatClampNeg (v5 + 2)) ((mI μ (mP μ p0 0) (Int32.toNatClampNeg (v5 + 2))) + v4)
  refine mGo.steps 2 (c' := (216, List.drop 9 mC216, [.ref p0, .int p1, .int p2, .int (v3 + 1), .int v4, .int v5], [], μ7)) rfl ?_
  obtain rfl := Option.some.inj hr
  exact hC (.int v4) rfl (.int v5) rfl
def s216L4L9 (p0 : Nat) (p1 : Int32) (p2 : Int32) (s : Int32 × mM) : Option ((Int32 × mM) ⊕ ((mM) ⊕ (Int32 × mM))) :=
  if 8 ≤ s.1 then (some (.inr (.inl s.2))) else (if (mS s.2 p0).1 = 9 then if (mS s.2 (mP s.2 p0 14)).1 = 10 ∧ mInb ((8 * p2) + s.1) (mS s.2 (mP s.2 p0 14)).2 then if ¬ (s.1 - s.1 / 4 * 4) = 0 then (if (mS s.2 (mP s.2 p0 0)).1 = 10 ∧ mInb ((172 + (3 * ((8 * p2) + s.1))) - 1) (mS s.2 (mP s.2 p0 0)).2 then (some (mUI s.2 (mP s.2 p0 0) (Int32.toNatClampNeg ((172 + (3 * ((8 * p2) + s.1))) - 1)) ((mI s.2 (mP s.2 p0 0) (Int32.toNatClampNeg ((172 + (3 * ((8 * p2) + s.1))) - 1))) - (mI s.2 (mP s.2 p0 14) (Int32.toNatClampNeg ((8 * p2) + s.1)))))).bind fun μ4 => s216L4L9_62 p0 p1 p2 μ4 s.1 (mI s.2 (mP s.2 p0 14) (Int32.toNatClampNeg ((8 * p2) + s.1))) (172 + (3 * ((8 * p2) + s.1))) else none) else (if (mS s.2 (mP s.2 p0 0)).1 = 10 ∧ mInb ((132 + (4 * p2)) + (s.1 / 2)) (mS s.2 (mP s.2 p0 0)).2 then (some (mUI s.2 (mP s.2 p0 0) (Int32.toNatClampNeg ((132 + (4 * p2)) + (s.1 / 2))) ((mI s.2 (mP s.2 p0 0) (Int32.toNatClampNeg ((132 + (4 * p2)) + (s.1 / 2)))) - (mI s.2 (mP s.2 p0 14) (Int32.toNatClampNeg ((8 * p2) + s.1)))))).bind fun μ9 => s216L4L9_62 p0 p1 p2 μ9 s.1 (mI s.2 (mP s.2 p0 14) (Int32.toNatClampNeg ((8 * p2) + s.1))) (172 + (3 * ((8 * p2) + s.1))) else none) else none else none)
set_option maxRecDepth 20000 in
theorem t216L4L9 (p0 : Nat) (p1 : Int32) (p2 : Int32) {r : Option Value × mM} (s : Int32 × mM) (o : ((Int32 × mM) ⊕ ((mM) ⊕ (Int32 × mM)))) (hr : s216L4L9 p0 p1 p2 s = some o) (hC : Sum.elim (fun s' : Int32 × mM => ∀ (w4 : Value) (hw4 : mNotL w4 = true) (w5 : Value) (hw5 : mNotL w5 = true), mGo mG (216, List.drop 9 mC216, [.ref p0, .int p1, .int p2, .int s'.1, w4, w5], [], s'.2) r) (Sum.elim (fun x : mM => ∀ (w3 : Value) (hw3 : mNotL w3 = true) (w4 : Value) (hw4 : mNotL w4 = true) (w5 : Value) (hw5 : mNotL w5 = true), mGo mG (216, List.drop 74 mC216, [.ref p0, .int p1, .int p2, w3, w4, w5], [], x) r) (fun y : (Int32 × mM) => r = (some (.int y.1), y.2))) o) : ∀ (w4 : Value) (hw4 : mNotL w4 = true) (w5 : Value) (hw5 : mNotL w5 = true), mGo mG (216, List.drop 9 mC216, [.ref p0, .int p1, .int p2, .int s.1, w4, w5], [], s.2) r := by
  intro w4 hw4 w5 hw5
  unfold s216L4L9 at hr
  refine mGo.steps 2 (c' := (216, List.drop 11 mC216, [.ref p0, .int p1, .int p2, .int s.1, w4, w5], [.int 8, .int s.1], s.2)) rfl ?_
  rcases mIte hr with ⟨h11, hr⟩ | ⟨h11, hr⟩
  · refine gBrT (p := 8 ≤ s.1) (y := 216) (is := List.drop 12 mC216) (L := [.ref p0, .int p1, .int p2, .int s.1, w4, w5]) (st := []) (μ := s.2) (t := 109) rfl h11 ?_
    obtain rfl := Option.some.inj hr
    exact hC (.int s.1) rfl w4 hw4 w5 hw5
  · refine gBrF (p := 8 ≤ s.1) (y := 216) (is := List.drop 12 mC216) (L := [.ref p0, .int p1, .int p2, .int s.1, w4, w5]) (st := []) (μ := s.2) (t := 109) rfl h11 ?_
    refine mGo.steps 1 (c' := (216, List.drop 13 mC216, [.ref p0, .int p1, .int p2, .int s.1, w4, w5], [.ref p0], s.2)) rfl ?_
    obtain ⟨h1, hr⟩ := mIf hr
    refine gGet (is := List.drop 14 mC216) (v := .ref (mP s.2 p0 14)) h1 rfl ?_
    refine mGo.steps 5 (c' := (216, List.drop 19 mC216, [.ref p0, .int p1, .int p2, .int s.1, w4, w5], [.int ((8 * p2) + s.1), .ref (mP s.2 p0 14)], s.2)) rfl ?_
    obtain ⟨h2, hr⟩ := mIf hr
    refine gIald (is := List.drop 20 mC216) h2 ?_
    refine mGo.steps 14 (c' := (216, List.drop 34 mC216, [.ref p0, .int p1, .int p2, .int s.1, .int (mI s.2 (mP s.2 p0 14) (Int32.toNatClampNeg ((8 * p2) + s.1))), .int (172 + (3 * ((8 * p2) + s.1)))], [.int (s.1 - s.1 / 4 * 4)], s.2)) rfl ?_
    rcases mIte hr with ⟨h10, hr⟩ | ⟨h10, hr⟩
    · refine gBrT (p := ¬ (s.1 - s.1 / 4 * 4) = 0) (y := 216) (is := List.drop 35 mC216) (L := [.ref p0, .int p1, .int p2, .int s.1, .int (mI s.2 (mP s.2 p0 14) (Int32.toNatClampNeg ((8 * p2) + s.1))), .int (172 + (3 * ((8 * p2) + s.1)))]) (st := []) (μ := s.2) (t := 75) rfl h10 ?_
      refine mGo.steps 1 (c' := (216, List.drop 53 mC216, [.ref p0, .int p1, .int p2, .int s.1, .int (mI s.2 (mP s.2 p0 14) (Int32.toNatClampNeg ((8 * p2) + s.1))), .int (172 + (3 * ((8 * p2) + s.1)))], [.ref p0], s.2)) rfl ?_
      refine gGet (is := List.drop 54 mC216) (v := .ref (mP s.2 p0 0)) h1 rfl ?_
      refine mGo.steps 4 (c' := (216, List.drop 58 mC216, [.ref p0, .int p1, .int p2, .int s.1, .int (mI s.2 (mP s.2 p0 14) (Int32.toNatClampNeg ((8 * p2) + s.1))), .int (172 + (3 * ((8 * p2) + s.1)))], [.int ((172 + (3 * ((8 * p2) + s.1))) - 1), .ref (mP s.2 p0 0), .int ((172 + (3 * ((8 * p2) + s.1))) - 1), .ref (mP s.2 p0 0)], s.2)) rfl ?_
      obtain ⟨h3, hr⟩ := mIf hr
      refine gIald (is := List.drop 59 mC216) h3 ?_
      refine mGo.steps 2 (c' := (216, List.drop 61 mC216, [.ref p0, .int p1, .int p2, .int s.1, .int (mI s.2 (mP s.2 p0 14) (Int32.toNatClampNeg ((8 * p2) + s.1))), .int (172 + (3 * ((8 * p2) + s.1)))], [.int ((mI s.2 (mP s.2 p0 0) (Int32.toNatClampNeg ((172 + (3 * ((8 * p2) + s.1))) - 1))) - (mI s.2 (mP s.2 p0 14) (Int32.toNatClampNeg ((8 * p2) + s.1)))), .int ((172 + (3 * ((8 * p2) + s.1))) - 1), .ref (mP s.2 p0 0)], s.2)) rfl ?_
      replace hr := mBs hr
      refine gIast (is := List.drop 62 mC216) h3 ?_
      let μ4 : mM := mUI s.2 (mP s.2 p0 0) (Int32.toNatClampNeg ((172 + (3 * ((8 * p2) + s.1))) - 1)) ((mI s.2 (mP s.2 p0 0) (Int32.toNatClampNeg ((172 + (3 * ((8 * p2) + s.1))) - 1))) - (mI s.2 (mP s.2 p0 14) (Int32.toNatClampNeg ((8 * p2) + s.1))))
      exact t216L4L9_62 p0 p1 p2 μ4 s.1 (mI s.2 (mP s.2 p0 14) (Int32.toNatClampNeg ((8 * p2) + s.1))) (172 + (3 * ((8 * p2) + s.1))) hr hC
    · refine gBrF (p := ¬ (s.1 - s.1 / 4 * 4) = 0) (y := 216) (is := List.drop 35 mC216) (L := [.ref p0, .int p1, .int p2, .int s.1, .int (mI s.2 (mP s.2 p0 14) (Int32.toNatClampNeg ((8 * p2) + s.1))), .int (172 + (3 * ((8 * p2) + s.1)))]) (st := []) (μ := s.2) (t := 75) rfl h10 ?_
      refine mGo.steps 1 (c' := (216, List.drop 36 mC216, [.ref p0, .int p1, .int p2, .int s.1, .int (mI s.2 (mP s.2 p0 14) (Int32.toNatClampNeg ((8 * p2) + s.1))), .int (172 + (3 * ((8 * p2) + s.1)))], [.ref p0], s.2)) rfl ?_
      refine gGet (is := List.drop 37 mC216) (v := .ref (mP s.2 p0 0)) h1 rfl ?_
      refine mGo.steps 10 (c' := (216, List.drop 47 mC216, [.ref p0, .int p1, .int p2, .int s.1, .int (mI s.2 (mP s.2 p0 14) (Int32.toNatClampNeg ((8 * p2) + s.1))), .int (172 + (3 * ((8 * p2) + s.1)))], [.int ((132 + (4 * p2)) + (s.1 / 2)), .ref (mP s.2 p0 0), .int ((132 + (4 * p2)) + (s.1 / 2)), .ref (mP s.2 p0 0)], s.2)) rfl ?_
      obtain ⟨h8, hr⟩ := mIf hr
      refine gIald (is := List.drop 48 mC216) h8 ?_
      refine mGo.steps 2 (c' := (216, List.drop 50 mC216, [.ref p0, .int p1, .int p2, .int s.1, .int (mI s.2 (mP s.2 p0 14) (Int32.toNatClampNeg ((8 * p2) + s.1))), .int (172 + (3 * ((8 * p2) + s.1)))], [.int ((mI s.2 (mP s.2 p0 0) (Int32.toNatClampNeg ((132 + (4 * p2)) + (s.1 / 2)))) - (mI s.2 (mP s.2 p0 14) (Int32.toNatClampNeg ((8 * p2) + s.1)))), .int ((132 + (4 * p2)) + (s.1 / 2)), .ref (mP s.2 p0 0)], s.2)) rfl ?_
      replace hr := mBs hr
      refine gIast (is := List.drop 51 mC216) h8 ?_
      let μ9 : mM := mUI s.2 (mP s.2 p0 0) (Int32.toNatClampNeg ((132 + (4 * p2)) + (s.1 / 2))) ((mI s.2 (mP s.2 p0 0) (Int32.toNatClampNeg ((132 + (4 * p2)) + (s.1 / 2)))) - (mI s.2 (mP s.2 p0 14) (Int32.toNatClampNeg ((8 * p2) + s.1))))
      refine mGo.steps 1 (c' := (216, List.drop 62 mC216, [.ref p0, .int p1, .int p2, .int s.1, .int (mI s.2 (mP s.2 p0 14) (Int32.toNatClampNeg ((8 * p2) + s.1))), .int (172 + (3 * ((8 * p2) + s.1)))], [], μ9)) rfl ?_
      exact t216L4L9_62 p0 p1 p2 μ9 s.1 (mI s.2 (mP s.2 p0 14) (Int32.toNatClampNeg ((8 * p2) + s.1))) (172 + (3 * ((8 * p2) + s.1))) hr hC
theorem t216L4L9l (p0 : Nat) (p1 : Int32) (p2 : Int32) {r : Option Value × mM} (n : Nat) (s : Int32 × mM) (o : (mM) ⊕ (Int32 × mM)) (hr : mLoop (s216L4L9 p0 p1 p2) n s = some o) (hC : Sum.elim (fun x : mM => ∀ (w3 : Value) (hw3 : mNotL w3 = true) (w4 : Value) (hw4 : mNotL w4 = true) (w5 : Value) (hw5 : mNotL w5 = true), mGo mG (216, List.drop 74 mC216, [.ref p0, .int p1, .int p2, w3, w4, w5], [], x) r) (fun y : (Int32 × mM) => r = (some (.int y.1), y.2)) o) : ∀ (w4 : Value) (hw4 : mNotL w4 = true) (w5 : Value) (hw5 : mNotL w5 = true), mGo mG (216, List.drop 9 mC216, [.ref p0, .int p1, .int p2, .int s.1, w4, w5], [], s.2) r :=
  mLoop_go (Hd := (fun s' : Int32 × mM => ∀ (w4 : Value) (hw4 : mNotL w4 = true) (w5 : Value) (hw5 : mNotL w5 = true), mGo mG (216, List.drop 9 mC216, [.ref p0, .int p1, .int p2, .int s'.1, w4, w5], [], s'.2) r)) (fun s o hb hC => t216L4L9 p0 p1 p2 s o hb hC) n s o hr hC
def s216L4L76 (p0 : Nat) (p2 : Int32) (s : Int32 × Int32 × mM) : Option ((Int32 × Int32 × mM) ⊕ ((Int32 × mM) ⊕ (Int32 × mM))) :=
  if 2 ≤ s.2.1 then (some (.inr (.inl (s.1, s.2.2)))) else (if (mS s.2.2 p0).1 = 9 then (s159 s.2.2 p0 p2 0).bind fun q17 => if ¬ q17 = 1 then (some (.inr (.inl (s.1, s.2.2)))) else ((s159 s.2.2 p0 p2 2).bind fun q19 => (s152 s.2.2 p0 q19).bind fun q21 => (s163 s.2.2 p2 s.2.1 (q21 - 1)).bind fun q23 => if (mS s.2.2 (mP s.2.2 p0 0)).1 = 10 ∧ mInb (((132 + (4 * p2)) + (2 * s.2.1)) + 1) (mS s.2.2 (mP s.2.2 p0 0)).2 then if (mS s.2.2 (mP s.2.2 p0 0)).1 = 10 ∧ mInb (q23 + 2) (mS s.2.2 (mP s.2.2 p0 0)).2 then (some (mUI s.2.2 (mP s.2.2 p0 0) (Int32.toNatClampNeg (((132 + (4 * p2)) + (2 * s.2.1)) + 1)) ((mI s.2.2 (mP s.2.2 p0 0) (Int32.toNatClampNeg (((132 + (4 * p2)) + (2 * s.2.1)) + 1))) + (mI s.2.2 (mP s.2.2 p0 0) (Int32.toNatClampNeg (q23 + 2)))))).bind fun μ27 => if (mS μ27 (mP μ27 p0 0)).1 = 10 ∧ mInb (q23 + 2) (mS μ27 (mP μ27 p0 0)).2 then (some (mUI μ27 (mP μ27 p0 0) (Int32.toNatClampNeg (q23 + 2)) 0)).bind fun μ29 => some (.inl (s.1 + (mI μ27 (mP μ27 p0 0) (Int32.toNatClampNeg (q23 + 2))), s.2.1 + 1, μ29)) else none else none else none) else none)
set_option maxRecDepth 20000 in
theorem t216L4L76 (p0 : Nat) (p2 : Int32) {r : Option Value × mM} (s : Int32 × Int32 × mM) (o : ((Int32 × Int32 × mM) ⊕ ((Int32 × mM) ⊕ (Int32 × mM)))) (hr : s216L4L76 p0 p2 s = some o) (hC : Sum.elim (fun s' : Int32 × Int32 × mM => ∀ (w4 : Value) (hw4 : mNotL w4 = true) (w5 : Value) (hw5 : mNotL w5 = true), mGo mG (216, List.drop 76 mC216, [.ref p0, .int s'.1, .int p2, .int s'.2.1, w4, w5], [], s'.2.2) r) (Sum.elim (fun x : Int32 × mM => ∀ (w3 : Value) (hw3 : mNotL w3 = true) (w4 : Value) (hw4 : mNotL w4 = true) (w5 : Value) (hw5 : mNotL w5 = true), mGo mG (216, List.drop 134 mC216, [.ref p0, .int x.1, .int p2, w3, w4, w5], [], x.2) r) (fun y : (Int32 × mM) => r = (some (.int y.1), y.2))) o) : ∀ (w4 : Value) (hw4 : mNotL w4 = true) (w5 : Value) (hw5 : mNotL w5 = true), mGo mG (216, List.drop 76 mC216, [.ref p0, .int s.1, .int p2, .int s.2.1, w4, w5], [], s.2.2) r := by
  intro w4 hw4 w5 hw5
  unfold s216L4L76 at hr
  refine mGo.steps 2 (c' := (216, List.drop 78 mC216, [.ref p0, .int s.1, .int p2, .int s.2.1, w4, w5], [.int 2, .int s.2.1], s.2.2)) rfl ?_
  rcases mIte hr with ⟨h31, hr⟩ | ⟨h31, hr⟩
  · refine gBrT (p := 2 ≤ s.2.1) (y := 216) (is := List.drop 79 mC216) (L := [.ref p0, .int s.1, .int p2, .int s.2.1, w4, w5]) (st := []) (μ := s.2.2) (t := 199) rfl h31 ?_
    obtain rfl := Option.some.inj hr
    exact hC (.int s.2.1) rfl w4 hw4 w5 hw5
  · refine gBrF (p := 2 ≤ s.2.1) (y := 216) (is := List.drop 79 mC216) (L := [.ref p0, .int s.1, .int p2, .int s.2.1, w4, w5]) (st := []) (μ := s.2.2) (t := 199) rfl h31 ?_
    refine mGo.steps 3 (c' := (216, List.drop 82 mC216, [.ref p0, .int s.1, .int p2, .int s.2.1, w4, w5], [.int 0, .int p2, .ref p0], s.2.2)) rfl ?_
    obtain ⟨h16, hr⟩ := mIf hr
    obtain ⟨q17, h18, hr⟩ := mBi hr
    refine gCall (z := 159) (n := 2) (f := 0) (kind := 1) (a := p0) (As := [.int p2, .int 0]) (y := 216) (is := List.drop 83 mC216) (L := [.ref p0, .int s.1, .int p2, .int s.2.1, w4, w5]) (rest := []) (μ := s.2.2) rfl (by decide) (by decide) ⟨rfl, rfl⟩ rfl h16 (Nat.le_of_ble_eq_true rfl) (Nat.le_of_ble_eq_true rfl) (t159 h18) ?_
    refine mGo.steps 1 (c' := (216, List.drop 84 mC216, [.ref p0, .int s.1, .int p2, .int s.2.1, w4, w5], [.int 1, .int q17], s.2.2)) rfl ?_
    rcases mIte hr with ⟨h30, hr⟩ | ⟨h30, hr⟩
    · refine gBrT (p := ¬ q17 = 1) (y := 216) (is := List.drop 85 mC216) (L := [.ref p0, .int s.1, .int p2, .int s.2.1, w4, w5]) (st := []) (μ := s.2.2) (t := 199) rfl h30 ?_
      obtain rfl := Option.some.inj hr
      exact hC (.int s.2.1) rfl w4 hw4 w5 hw5
    · refine gBrF (p := ¬ q17 = 1) (y := 216) (is := List.drop 85 mC216) (L := [.ref p0, .int s.1, .int p2, .int s.2.1, w4, w5]) (st := []) (μ := s.2.2) (t := 199) rfl h30 ?_
      refine mGo.steps 6 (c' := (216, List.drop 91 mC216, [.ref p0, .int s.1, .int p2, .int s.2.1, w4, w5], [.int 2, .int p2, .ref p0, .ref p0, .int s.2.1, .int p2], s.2.2)) rfl ?_
      obtain ⟨q19, h20, hr⟩ := mBi hr
      refine gCall (z := 159) (n := 2) (f := 0) (kind := 1) (a := p0) (As := [.int p2, .int 2]) (y := 216) (is := List.drop 92 mC216) (L := [.ref p0, .int s.1, .int p2, .int s.2.1, w4, w5]) (rest := [.ref p0, .int s.2.1, .int p2]) (μ := s.2.2) rfl (by decide) (by decide) ⟨rfl, rfl⟩ rfl h16 (Nat.le_of_ble_eq_true rfl) (Nat.le_of_ble_eq_true rfl) (t159 h20) ?_
      obtain ⟨q21, h22, hr⟩ := mBi hr
      refine gCall (z := 152) (n := 1) (f := 0) (kind := 1) (a := p0) (As := [.int q19]) (y := 216) (is := List.drop 93 mC216) (L := [.ref p0, .int s.1, .int p2, .int s.2.1, w4, w5]) (rest := [.int s.2.1, .int p2]) (μ := s.2.2) rfl (by decide) (by decide) ⟨rfl, rfl⟩ rfl h16 (Nat.le_of_ble_eq_true rfl) (Nat.le_of_ble_eq_true rfl) (t152 h22) ?_
      refine mGo.steps 2 (c' := (216, List.drop 95 mC216, [.ref p0, .int s.1, .int p2, .int s.2.1, w4, w5], [.int (q21 - 1), .int s.2.1, .int p2], s.2.2)) rfl ?_
      obtain ⟨q23, h24, hr⟩ := mBi hr
      refine mGo.call (z := 163) (as := [.int p2, .int s.2.1, .int (q21 - 1)]) (y := 216) (is := List.drop 96 mC216) (L := [.ref p0, .int s.1, .int p2, .int s.2.1, w4, w5]) (st := []) (μ := s.2.2) rfl (t163 h24) ?_
      refine mGo.steps 4 (c' := (216, List.drop 100 mC216, [.ref p0, .int s.1, .int p2, .int s.2.1, .int (q23 + 2), w5], [.ref p0], s.2.2)) rfl ?_
      refine gGet (is := List.drop 101 mC216) (v := .ref (mP s.2.2 p0 0)) h16 rfl ?_
      refine mGo.steps 12 (c' := (216, List.drop 113 mC216, [.ref p0, .int s.1, .int p2, .int s.2.1, .int (q23 + 2), w5], [.int (((132 + (4 * p2)) + (2 * s.2.1)) + 1), .ref (mP s.2.2 p0 0), .int (((132 + (4 * p2)) + (2 * s.2.1)) + 1), .ref (mP s.2.2 p0 0)], s.2.2)) rfl ?_
      obtain ⟨h25, hr⟩ := mIf hr
      refine gIald (is := List.drop 114 mC216) h25 ?_
      refine mGo.steps 1 (c' := (216, List.drop 115 mC216, [.ref p0, .int s.1, .int p2, .int s.2.1, .int (q23 + 2), w5], [.ref p0, .int (mI s.2.2 (mP s.2.2 p0 0) (Int32.toNatClampNeg (((132 + (4 * p2)) + (2 * s.2.1)) + 1))), .int (((132 + (4 * p2)) + (2 * s.2.1)) + 1), .ref (mP s.2.2 p0 0)], s.2.2)) rfl ?_
      refine gGet (is := List.drop 116 mC216) (v := .ref (mP s.2.2 p0 0)) h16 rfl ?_
      refine mGo.steps 1 (c' := (216, List.drop 117 mC216, [.ref p0, .int s.1, .int p2, .int s.2.1, .int (q23 + 2), w5], [.int (q23 + 2), .ref (mP s.2.2 p0 0), .int (mI s.2.2 (mP s.2.2 p0 0) (Int32.toNatClampNeg (((132 + (4 * p2)) + (2 * s.2.1)) + 1))), .int (((132 + (4 * p2)) + (2 * s.2.1)) + 1), .ref (mP s.2.2 p0 0)], s.2.2)) rfl ?_
      obtain ⟨h26, hr⟩ := mIf hr
      refine gIald (is := List.drop 118 mC216) h26 ?_
      refine mGo.steps 1 (c' := (216, List.drop 119 mC216, [.ref p0, .int s.1, .int p2, .int s.2.1, .int (q23 + 2), w5], [.int ((mI s.2.2 (mP s.2.2 p0 0) (Int32.toNatClampNeg (((132 + (4 * p2)) + (2 * s.2.1)) + 1))) + (mI s.2.2 (mP s.2.2 p0 0) (Int32.toNatClampNeg (q23 + 2)))), .int (((132 + (4 * p2)) + (2 * s.2.1)) + 1), .ref (mP s.2.2 p0 0)], s.2.2)) rfl ?_
      replace hr := mBs hr
      refine gIast (is := List.drop 120 mC216) h25 ?_
      let μ27 : mM := mUI s.2.2 (mP s.2.2 p0 0) (Int32.toNatClampNeg (((132 + (4 * p2)) + (2 * s.2.1)) + 1)) ((mI s.2.2 (mP s.2.2 p0 0) (Int32.toNatClampNeg (((132 + (4 * p2)) + (2 * s.2.1)) + 1))) + (mI s.2.2 (mP s.2.2 p0 0) (Int32.toNatClampNeg (q23 + 2))))
      refine mGo.steps 2 (c' := (216, List.drop 122 mC216, [.ref p0, .int s.1, .int p2, .int s.2.1, .int (q23 + 2), w5], [.ref p0, .int s.1], μ27)) rfl ?_
      refine gGet (is := List.drop 123 mC216) (v := .ref (mP μ27 p0 0)) h16 rfl ?_
      refine mGo.steps 1 (c' := (216, List.drop 124 mC216, [.ref p0, .int s.1, .int p2, .int s.2.1, .int (q23 + 2), w5], [.int (q23 + 2), .ref (mP μ27 p0 0), .int s.1], μ27)) rfl ?_
      obtain ⟨h28, hr⟩ := mIf hr
      refine gIald (is := List.drop 125 mC216) h28 ?_
      refine mGo.steps 3 (c' := (216, List.drop 128 mC216, [.ref p0, .int (s.1 + (mI μ27 (mP μ27 p0 0) (Int32.toNatClampNeg (q23 + 2)))), .int p2, .int s.2.1, .int (q23 + 2), w5], [.ref p0], μ27)) rfl ?_
      refine gGet (is := List.drop 129 mC216) (v := .ref (mP μ27 p0 0)) h16 rfl ?_
      refine mGo.steps 2 (c' := (216, List.drop 131 mC216, [.ref p0, .int (s.1 + (mI μ27 (mP μ27 p0 0) (Int32.toNatClampNeg (q23 + 2)))), .int p2, .int s.2.1, .int (q23 + 2), w5], [.int 0, .int (q23 + 2), .ref (mP μ27 p0 0)], μ27)) rfl ?_
      replace hr := mBs hr
      refine gIast (is := List.drop 132 mC216) h28 ?_
      let μ29 : mM := mUI μ27 (mP μ27 p0 0) (Int32.toNatClampNeg (q23 + 2)) 0
      refine mGo.steps 2 (c' := (216, List.drop 76 mC216, [.ref p0, .int (s.1 + (mI μ27 (mP μ27 p0 0) (Int32.toNatClampNeg (q23 + 2)))), .int p2, .int (s.2.1 + 1), .int (q23 + 2), w5], [], μ29)) rfl ?_
      obtain rfl := Option.some.inj hr
      exact hC (.int (q23 + 2)) rfl w5 hw5
theorem t216L4L76l (p0 : Nat) (p2 : Int32) {r : Option Value × mM} (n : Nat) (s : Int32 × Int32 × mM) (o : (Int32 × mM) ⊕ (Int32 × mM)) (hr : mLoop (s216L4L76 p0 p2) n s = some o) (hC : Sum.elim (fun x : Int32 × mM => ∀ (w3 : Value) (hw3 : mNotL w3 = true) (w4 : Value) (hw4 : mNotL w4 = true) (w5 : Value) (hw5 : mNotL w5 = true), mGo mG (216, List.drop 134 mC216, [.ref p0, .int x.1, .int p2, w3, w4, w5], [], x.2) r) (fun y : (Int32 × mM) => r = (some (.int y.1), y.2)) o) : ∀ (w4 : Value) (hw4 : mNotL w4 = true) (w5 : Value) (hw5 : mNotL w5 = true), mGo mG (216, List.drop 76 mC216, [.ref p0, .int s.1, .int p2, .int s.2.1, w4, w5], [], s.2.2) r :=
  mLoop_go (Hd := (fun s' : Int32 × Int32 × mM => ∀ (w4 : Value) (hw4 : mNotL w4 = true) (w5 : Value) (hw5 : mNotL w5 = true), mGo mG (216, List.drop 76 mC216, [.ref p0, .int s'.1, .int p2, .int s'.2.1, w4, w5], [], s'.2.2) r)) (fun s o hb hC => t216L4L76 p0 p2 s o hb hC) n s o hr hC
def s216L4_134 (p0 : Nat) (μ : mM) (v1 : Int32) (v2 : Int32) : Option ((Int32 × Int32 × mM) ⊕ ((Int32 × mM) ⊕ (Int32 × mM))) :=
  some (.inl (v1, v2 + 1, μ))
set_option maxRecDepth 20000 in
theorem t216L4_134 (p0 : Nat) (μ : mM) (v1 : Int32) (v2 : Int32) (w3 : Value) (hw3 : mNotL w3 = true) (w4 : Value) (hw4 : mNotL w4 = true) (w5 : Value) (hw5 : mNotL w5 = true) {o : ((Int32 × Int32 × mM) ⊕ ((Int32 × mM) ⊕ (Int32 × mM)))} {r : Option Value × mM} (hr : s216L4_134 p0 μ v1 v2 = some o) (hC : Sum.elim (fun s' : Int32 × Int32 × mM => ∀ (w3 : Value) (hw3 : mNotL w3 = true) (w4 : Value) (hw4 : mNotL w4 = true) (w5 : Value) (hw5 : mNotL w5 = true), mGo mG (216, List.drop 4 mC216, [.ref p0, .int s'.1, .int s'.2.1, w3, w4, w5], [], s'.2.2) r) (Sum.elim (fun x : Int32 × mM => ∀ (w0 : Value) (hw0 : mNotL w0 = true) (w2 : Value) (hw2 : mNotL w2 = true) (w3 : Value) (hw3 : mNotL w3 = true) (w4 : Value) (hw4 : mNotL w4 = true) (w5 : Value) (hw5 : mNotL w5 = true), mGo mG (216, List.drop 136 mC216, [w0, .int x.1, w2, w3, w4, w5], [], x.2) r) (fun y : (Int32 × mM) => r = (some (.int y.1), y.2))) o) : mGo mG (216, List.drop 134 mC216, [.ref p0, .int v1, .int v2, w3, w4, w5], [], μ) r := by
  unfold s216L4_134 at hr
  refine mGo.steps 2 (c' := (216, List.drop 4 mC216, [.ref p0, .int v1, .int (v2 + 1), w3, w4, w5], [], μ)) rfl ?_
  obtain rfl := Option.some.inj hr
  exact hC w3 hw3 w4 hw4 w5 hw5
def s216L4 (p0 : Nat) (s : Int32 × Int32 × mM) : Option ((Int32 × Int32 × mM) ⊕ ((Int32 × mM) ⊕ (Int32 × mM))) :=
  if 10 ≤ s.2.1 then (some (.inr (.inl (s.1, s.2.2)))) else ((mLoop (s216L4L9 p0 s.1 s.2.1) 1000 (0, s.2.2)).bind fun o12 => Sum.elim (fun x13 => (mLoop (s216L4L76 p0 s.2.1) 1000 (s.1, 0, x13)).bind fun o32 => Sum.elim (fun x33 => s216L4_134 p0 x33.2 x33.1 s.2.1) (fun y34 => some (.inr (.inr y34))) o32) (fun y14 => some (.inr (.inr y14))) o12)
set_option maxRecDepth 20000 in
theorem t216L4 (p0 : Nat) {r : Option Value × mM} (s : Int32 × Int32 × mM) (o : ((Int32 × Int32 × mM) ⊕ ((Int32 × mM) ⊕ (Int32 × mM)))) (hr : s216L4 p0 s = some o) (hC : Sum.elim (fun s' : Int32 × Int32 × mM => ∀ (w3 : Value) (hw3 : mNotL w3 = true) (w4 : Value) (hw4 : mNotL w4 = true) (w5 : Value) (hw5 : mNotL w5 = true), mGo mG (216, List.drop 4 mC216, [.ref p0, .int s'.1, .int s'.2.1, w3, w4, w5], [], s'.2.2) r) (Sum.elim (fun x : Int32 × mM => ∀ (w0 : Value) (hw0 : mNotL w0 = true) (w2 : Value) (hw2 : mNotL w2 = true) (w3 : Value) (hw3 : mNotL w3 = true) (w4 : Value) (hw4 : mNotL w4 = true) (w5 : Value) (hw5 : mNotL w5 = true), mGo mG (216, List.drop 136 mC216, [w0, .int x.1, w2, w3, w4, w5], [], x.2) r) (fun y : (Int32 × mM) => r = (some (.int y.1), y.2))) o) : ∀ (w3 : Value) (hw3 : mNotL w3 = true) (w4 : Value) (hw4 : mNotL w4 = true) (w5 : Value) (hw5 : mNotL w5 = true), mGo mG (216, List.drop 4 mC216, [.ref p0, .int s.1, .int s.2.1, w3, w4, w5], [], s.2.2) r := by
  intro w3 hw3 w4 hw4 w5 hw5
  unfold s216L4 at hr
  refine mGo.steps 2 (c' := (216, List.drop 6 mC216, [.ref p0, .int s.1, .int s.2.1, w3, w4, w5], [.int 10, .int s.2.1], s.2.2)) rfl ?_
  rcases mIte hr with ⟨h36, hr⟩ | ⟨h36, hr⟩
  · refine gBrT (p := 10 ≤ s.2.1) (y := 216) (is := List.drop 7 mC216) (L := [.ref p0, .int s.1, .int s.2.1, w3, w4, w5]) (st := []) (μ := s.2.2) (t := 205) rfl h36 ?_
    obtain rfl := Option.some.inj hr
    exact hC (.ref p0) rfl (.int s.2.1) rfl w3 hw3 w4 hw4 w5 hw5
  · refine gBrF (p := 10 ≤ s.2.1) (y := 216) (is := List.drop 7 mC216) (L := [.ref p0, .int s.1, .int s.2.1, w3, w4, w5]) (st := []) (μ := s.2.2) (t := 205) rfl h36 ?_
    refine mGo.steps 2 (c' := (216, List.drop 9 mC216, [.ref p0, .int s.1, .int s.2.1, .int 0, w4, w5], [], s.2.2)) rfl ?_
    obtain ⟨o12, h15, hr⟩ := mBi hr
    refine t216L4L9l p0 s.1 s.2.1 1000 (0, s.2.2) o12 h15 ?_ w4 hw4 w5 hw5
    cases o12 with
    | inl x13 =>
      show ∀ (w3 : Value) (hw3 : mNotL w3 = true) (w4 : Value) (hw4 : mNotL w4 = true) (w5 : Value) (hw5 : mNotL w5 = true), mGo mG (216, List.drop 74 mC216, [.ref p0, .int s.1, .int s.2.1, w3, w4, w5], [], x13) r
      intro w3 hw3 w4 hw4 w5 hw5
      replace hr : (_) = some _ := hr
      refine mGo.steps 2 (c' := (216, List.drop 76 mC216, [.ref p0, .int s.1, .int s.2.1, .int 0, w4, w5], [], x13)) rfl ?_
      obtain ⟨o32, h35, hr⟩ := mBi hr
      refine t216L4L76l p0 s.2.1 1000 (s.1, 0, x13) o32 h35 ?_ w4 hw4 w5 hw5
      cases o32 with
      | inl x33 =>
        show ∀ (w3 : Value) (hw3 : mNotL w3 = true) (w4 : Value) (hw4 : mNotL w4 = true) (w5 : Value) (hw5 : mNotL w5 = true), mGo mG (216, List.drop 134 mC216, [.ref p0, .int x33.1, .int s.2.1, w3, w4, w5], [], x33.2) r
        intro w3 hw3 w4 hw4 w5 hw5
        replace hr : (_) = some _ := hr
        exact t216L4_134 p0 x33.2 x33.1 s.2.1 w3 hw3 w4 hw4 w5 hw5 hr hC
      | inr y34 =>
        obtain rfl := Option.some.inj hr
        exact hC
    | inr y14 =>
      obtain rfl := Option.some.inj hr
      exact hC
theorem t216L4l (p0 : Nat) {r : Option Value × mM} (n : Nat) (s : Int32 × Int32 × mM) (o : (Int32 × mM) ⊕ (Int32 × mM)) (hr : mLoop (s216L4 p0) n s = some o) (hC : Sum.elim (fun x : Int32 × mM => ∀ (w0 : Value) (hw0 : mNotL w0 = true) (w2 : Value) (hw2 : mNotL w2 = true) (w3 : Value) (hw3 : mNotL w3 = true) (w4 : Value) (hw4 : mNotL w4 = true) (w5 : Value) (hw5 : mNotL w5 = true), mGo mG (216, List.drop 136 mC216, [w0, .int x.1, w2, w3, w4, w5], [], x.2) r) (fun y : (Int32 × mM) => r = (some (.int y.1), y.2)) o) : ∀ (w3 : Value) (hw3 : mNotL w3 = true) (w4 : Value) (hw4 : mNotL w4 = true) (w5 : Value) (hw5 : mNotL w5 = true), mGo mG (216, List.drop 4 mC216, [.ref p0, .int s.1, .int s.2.1, w3, w4, w5], [], s.2.2) r :=
  mLoop_go (Hd := (fun s' : Int32 × Int32 × mM => ∀ (w3 : Value) (hw3 : mNotL w3 = true) (w4 : Value) (hw4 : mNotL w4 = true) (w5 : Value) (hw5 : mNotL w5 = true), mGo mG (216, List.drop 4 mC216, [.ref p0, .int s'.1, .int s'.2.1, w3, w4, w5], [], s'.2.2) r)) (fun s o hb hC => t216L4 p0 s o hb hC) n s o hr hC
def s216 (μ : mM) (a0 : Nat) : Option (Int32 × mM) :=
  (mLoop (s216L4 a0) 1000 (0, 0, μ)).bind fun o37 => Sum.elim (fun x38 => some (x38.1, x38.2)) (fun y39 => some y39) o37
set_option maxRecDepth 20000 in
theorem t216 {μ : mM} {a0 : Nat} {o : (Int32 × mM)} (hr : s216 μ a0 = some o) : mEv mG 216 [.ref a0] μ (some (.int o.1)) (o.2) := by
  obtain ⟨r, hC⟩ : ∃ r : Option Value × mM, r = (some (.int o.1), o.2) := ⟨_, rfl⟩
  show mGo mG (216, List.drop 0 mC216, [.ref a0, .retAddr 0, .retAddr 0, .retAddr 0, .retAddr 0, .retAddr 0], [], μ) (some (.int o.1), o.2)
  rw [← hC]
  unfold s216 at hr
  refine mGo.steps 4 (c' := (216, List.drop 4 mC216, [.ref a0, .int 0, .int 0, .retAddr 0, .retAddr 0, .retAddr 0], [], μ)) rfl ?_
  obtain ⟨o37, h40, hr⟩ := mBi hr
  refine t216L4l a0 1000 (0, 0, μ) o37 h40 ?_ (.retAddr 0) rfl (.retAddr 0) rfl (.retAddr 0) rfl
  cases o37 with
  | inl x38 =>
    show ∀ (w0 : Value) (hw0 : mNotL w0 = true) (w2 : Value) (hw2 : mNotL w2 = true) (w3 : Value) (hw3 : mNotL w3 = true) (w4 : Value) (hw4 : mNotL w4 = true) (w5 : Value) (hw5 : mNotL w5 = true), mGo mG (216, List.drop 136 mC216, [w0, .int x38.1, w2, w3, w4, w5], [], x38.2) r
    intro w0 hw0 w2 hw2 w3 hw3 w4 hw4 w5 hw5
    replace hr : (_) = some _ := hr
    refine mGo.steps 1 (c' := (216, List.drop 137 mC216, [w0, .int x38.1, w2, w3, w4, w5], [.int x38.1], x38.2)) rfl ?_
    obtain rfl := Option.some.inj hr
    rw [show r = _ from hC]
    exact gIret rfl
  | inr y39 =>
    obtain rfl := Option.some.inj hr
    exact hC

/-! 217: TunnelFabricModel.hasVideo(I)Z -/
def s217L4_23 (μ : mM) (p0 : Nat) (p1 : Int32) (v3 : Int32) (t0 : Int32) : Option ((Int32 × Int32) ⊕ ((Int32) ⊕ Int32)) :=
  some (.inl (t0, v3 + 1))
set_option maxRecDepth 20000 in
theorem t217L4_23 (μ : mM) (p0 : Nat) (p1 : Int32) (v3 : Int32) (t0 : Int32) (w2 : Value) (hw2 : mNotL w2 = true) {o : ((Int32 × Int32) ⊕ ((Int32) ⊕ Int32))} {r : Option Value × mM} (hr : s217L4_23 μ p0 p1 v3 t0 = some o) (hC : Sum.elim (fun s' : Int32 × Int32 => mGo mG (217, List.drop 4 mC217, [.ref p0, .int p1, .int s'.1, .int s'.2], [], μ) r) (Sum.elim (fun x : Int32 => ∀ (w0 : Value) (hw0 : mNotL w0 = true) (w1 : Value) (hw1 : mNotL w1 = true) (w3 : Value) (hw3 : mNotL w3 = true), mGo mG (217, List.drop 26 mC217, [w0, w1, .int x, w3], [], μ) r) (fun y : Int32 => r = (some (.int y), μ))) o) : mGo mG (217, List.drop 23 mC217, [.ref p0, .int p1, w2, .int v3], [.int t0], μ) r := by
  unfold s217L4_23 at hr
  refine mGo.steps 3 (c' := (217, List.drop 4 mC217, [.ref p0, .int p1, .int t0, .int (v3 + 1)], [], μ)) rfl ?_
  obtain rfl := Option.some.inj hr
  exact hC
def s217L4_20 (μ : mM) (p0 : Nat) (p1 : Int32) (v3 : Int32) : Option ((Int32 × Int32) ⊕ ((Int32) ⊕ Int32)) :=
  s217L4_23 μ p0 p1 v3 1
set_option maxRecDepth 20000 in
theorem t217L4_20 (μ : mM) (p0 : Nat) (p1 : Int32) (v3 : Int32) (w2 : Value) (hw2 : mNotL w2 = true) {o : ((Int32 × Int32) ⊕ ((Int32) ⊕ Int32))} {r : Option Value × mM} (hr : s217L4_20 μ p0 p1 v3 = some o) (hC : Sum.elim (fun s' : Int32 × Int32 => mGo mG (217, List.drop 4 mC217, [.ref p0, .int p1, .int s'.1, .int s'.2], [], μ) r) (Sum.elim (fun x : Int32 => ∀ (w0 : Value) (hw0 : mNotL w0 = true) (w1 : Value) (hw1 : mNotL w1 = true) (w3 : Value) (hw3 : mNotL w3 = true), mGo mG (217, List.drop 26 mC217, [w0, w1, .int x, w3], [], μ) r) (fun y : Int32 => r = (some (.int y), μ))) o) : mGo mG (217, List.drop 20 mC217, [.ref p0, .int p1, w2, .int v3], [], μ) r := by
  unfold s217L4_20 at hr
  refine mGo.steps 2 (c' := (217, List.drop 23 mC217, [.ref p0, .int p1, w2, .int v3], [.int 1], μ)) rfl ?_
  exact t217L4_23 μ p0 p1 v3 1 w2 hw2 hr hC
def s217L4_22 (μ : mM) (p0 : Nat) (p1 : Int32) (v3 : Int32) : Option ((Int32 × Int32) ⊕ ((Int32) ⊕ Int32)) :=
  s217L4_23 μ p0 p1 v3 0
set_option maxRecDepth 20000 in
theorem t217L4_22 (μ : mM) (p0 : Nat) (p1 : Int32) (v3 : Int32) (w2 : Value) (hw2 : mNotL w2 = true) {o : ((Int32 × Int32) ⊕ ((Int32) ⊕ Int32))} {r : Option Value × mM} (hr : s217L4_22 μ p0 p1 v3 = some o) (hC : Sum.elim (fun s' : Int32 × Int32 => mGo mG (217, List.drop 4 mC217, [.ref p0, .int p1, .int s'.1, .int s'.2], [], μ) r) (Sum.elim (fun x : Int32 => ∀ (w0 : Value) (hw0 : mNotL w0 = true) (w1 : Value) (hw1 : mNotL w1 = true) (w3 : Value) (hw3 : mNotL w3 = true), mGo mG (217, List.drop 26 mC217, [w0, w1, .int x, w3], [], μ) r) (fun y : Int32 => r = (some (.int y), μ))) o) : mGo mG (217, List.drop 22 mC217, [.ref p0, .int p1, w2, .int v3], [], μ) r := by
  unfold s217L4_22 at hr
  refine mGo.steps 1 (c' := (217, List.drop 23 mC217, [.ref p0, .int p1, w2, .int v3], [.int 0], μ)) rfl ?_
  exact t217L4_23 μ p0 p1 v3 0 w2 hw2 hr hC
def s217L4 (μ : mM) (p0 : Nat) (p1 : Int32) (s : Int32 × Int32) : Option ((Int32 × Int32) ⊕ ((Int32) ⊕ Int32)) :=
  if 10 ≤ s.2 then (some (.inr (.inl s.1))) else (if ¬ s.1 = 0 then (s217L4_20 μ p0 p1 s.2) else (if (mS μ p0).1 = 9 then (s162 μ p0 s.2 p1 0).bind fun q2 => if q2 = 0 then (s217L4_22 μ p0 p1 s.2) else ((s159 μ p0 s.2 1).bind fun q4 => if ¬ q4 = 0 then (s217L4_22 μ p0 p1 s.2) else (s217L4_20 μ p0 p1 s.2)) else none))
set_option maxRecDepth 20000 in
theorem t217L4 (μ : mM) (p0 : Nat) (p1 : Int32) {r : Option Value × mM} (s : Int32 × Int32) (o : ((Int32 × Int32) ⊕ ((Int32) ⊕ Int32))) (hr : s217L4 μ p0 p1 s = some o) (hC : Sum.elim (fun s' : Int32 × Int32 => mGo mG (217, List.drop 4 mC217, [.ref p0, .int p1, .int s'.1, .int s'.2], [], μ) r) (Sum.elim (fun x : Int32 => ∀ (w0 : Value) (hw0 : mNotL w0 = true) (w1 : Value) (hw1 : mNotL w1 = true) (w3 : Value) (hw3 : mNotL w3 = true), mGo mG (217, List.drop 26 mC217, [w0, w1, .int x, w3], [], μ) r) (fun y : Int32 => r = (some (.int y), μ))) o) : mGo mG (217, List.drop 4 mC217, [.ref p0, .int p1, .int s.1, .int s.2], [], μ) r := by
  unfold s217L4 at hr
  refine mGo.steps 2 (c' := (217, List.drop 6 mC217, [.ref p0, .int p1, .int s.1, .int s.2], [.int 10, .int s.2], μ)) rfl ?_
  rcases mIte hr with ⟨h9, hr⟩ | ⟨h9, hr⟩
  · refine gBrT (p := 10 ≤ s.2) (y := 217) (is := List.drop 7 mC217) (L := [.ref p0, .int p1, .int s.1, .int s.2]) (st := []) (μ := μ) (t := 45) rfl h9 ?_
    obtain rfl := Option.some.inj hr
    exact hC (.ref p0) rfl (.int p1) rfl (.int s.2) rfl
  · refine gBrF (p := 10 ≤ s.2) (y := 217) (is := List.drop 7 mC217) (L := [.ref p0, .int p1, .int s.1, .int s.2]) (st := []) (μ := μ) (t := 45) rfl h9 ?_
    refine mGo.steps 1 (c' := (217, List.drop 8 mC217, [.ref p0, .int p1, .int s.1, .int s.2], [.int s.1], μ)) rfl ?_
    rcases mIte hr with ⟨h8, hr⟩ | ⟨h8, hr⟩
    · refine gBrT (p := ¬ s.1 = 0) (y := 217) (is := List.drop 9 mC217) (L := [.ref p0, .int p1, .int s.1, .int s.2]) (st := []) (μ := μ) (t := 33) rfl h8 ?_
      exact t217L4_20 μ p0 p1 s.2 (.int s.1) rfl hr hC
    · refine gBrF (p := ¬ s.1 = 0) (y := 217) (is := List.drop 9 mC217) (L := [.ref p0, .int p1, .int s.1, .int s.2]) (st := []) (μ := μ) (t := 33) rfl h8 ?_
      refine mGo.steps 4 (c' := (217, List.drop 13 mC217, [.ref p0, .int p1, .int s.1, .int s.2], [.int 0, .int p1, .int s.2, .ref p0], μ)) rfl ?_
      obtain ⟨h1, hr⟩ := mIf hr
      obtain ⟨q2, h3, hr⟩ := mBi hr
      refine gCall (z := 162) (n := 3) (f := 0) (kind := 1) (a := p0) (As := [.int s.2, .int p1, .int 0]) (y := 217) (is := List.drop 14 mC217) (L := [.ref p0, .int p1, .int s.1, .int s.2]) (rest := []) (μ := μ) rfl (by decide) (by decide) ⟨rfl, rfl⟩ rfl h1 (Nat.le_of_ble_eq_true rfl) (Nat.le_of_ble_eq_true rfl) (t162 h3) ?_
      rcases mIte hr with ⟨h7, hr⟩ | ⟨h7, hr⟩
      · refine gBrT (p := q2 = 0) (y := 217) (is := List.drop 15 mC217) (L := [.ref p0, .int p1, .int s.1, .int s.2]) (st := []) (μ := μ) (t := 37) rfl h7 ?_
        exact t217L4_22 μ p0 p1 s.2 (.int s.1) rfl hr hC
      · refine gBrF (p := q2 = 0) (y := 217) (is := List.drop 15 mC217) (L := [.ref p0, .int p1, .int s.1, .int s.2]) (st := []) (μ := μ) (t := 37) rfl h7 ?_
        refine mGo.steps 3 (c' := (217, List.drop 18 mC217, [.ref p0, .int p1, .int s.1, .int s.2], [.int 1, .int s.2, .ref p0], μ)) rfl ?_
        obtain ⟨q4, h5, hr⟩ := mBi hr
        refine gCall (z := 159) (n := 2) (f := 0) (kind := 1) (a := p0) (As := [.int s.2, .int 1]) (y := 217) (is := List.drop 19 mC217) (L := [.ref p0, .int p1, .int s.1, .int s.2]) (rest := []) (μ := μ) rfl (by decide) (by decide) ⟨rfl, rfl⟩ rfl h1 (Nat.le_of_ble_eq_true rfl) (Nat.le_of_ble_eq_true rfl) (t159 h5) ?_
        rcases mIte hr with ⟨h6, hr⟩ | ⟨h6, hr⟩
        · refine gBrT (p := ¬ q4 = 0) (y := 217) (is := List.drop 20 mC217) (L := [.ref p0, .int p1, .int s.1, .int s.2]) (st := []) (μ := μ) (t := 37) rfl h6 ?_
          exact t217L4_22 μ p0 p1 s.2 (.int s.1) rfl hr hC
        · refine gBrF (p := ¬ q4 = 0) (y := 217) (is := List.drop 20 mC217) (L := [.ref p0, .int p1, .int s.1, .int s.2]) (st := []) (μ := μ) (t := 37) rfl h6 ?_
          exact t217L4_20 μ p0 p1 s.2 (.int s.1) rfl hr hC
theorem t217L4l (μ : mM) (p0 : Nat) (p1 : Int32) {r : Option Value × mM} (n : Nat) (s : Int32 × Int32) (o : (Int32) ⊕ Int32) (hr : mLoop (s217L4 μ p0 p1) n s = some o) (hC : Sum.elim (fun x : Int32 => ∀ (w0 : Value) (hw0 : mNotL w0 = true) (w1 : Value) (hw1 : mNotL w1 = true) (w3 : Value) (hw3 : mNotL w3 = true), mGo mG (217, List.drop 26 mC217, [w0, w1, .int x, w3], [], μ) r) (fun y : Int32 => r = (some (.int y), μ)) o) : mGo mG (217, List.drop 4 mC217, [.ref p0, .int p1, .int s.1, .int s.2], [], μ) r :=
  mLoop_go (Hd := (fun s' : Int32 × Int32 => mGo mG (217, List.drop 4 mC217, [.ref p0, .int p1, .int s'.1, .int s'.2], [], μ) r)) (fun s o hb hC => t217L4 μ p0 p1 s o hb hC) n s o hr hC
def s217 (μ : mM) (a0 : Nat) (a1 : Int32) : Option Int32 :=
  (mLoop (s217L4 μ a0 a1) 1000 (0, 0)).bind fun o10 => Sum.elim (fun x11 => if x11 = 0 ∨ x11 = 1 then some x11 else none) (fun y12 => some y12) o10
set_option maxRecDepth 20000 in
theorem t217 {μ : mM} {a0 : Nat} {a1 : Int32} {o : Int32} (hr : s217 μ a0 a1 = some o) : mEv mG 217 [.ref a0, .int a1] μ (some (.int o)) (μ) := by
  obtain ⟨r, hC⟩ : ∃ r : Option Value × mM, r = (some (.int o), μ) := ⟨_, rfl⟩
  show mGo mG (217, List.drop 0 mC217, [.ref a0, .int a1, .retAddr 0, .retAddr 0], [], μ) (some (.int o), μ)
  rw [← hC]
  unfold s217 at hr
  refine mGo.steps 4 (c' := (217, List.drop 4 mC217, [.ref a0, .int a1, .int 0, .int 0], [], μ)) rfl ?_
  obtain ⟨o10, h13, hr⟩ := mBi hr
  refine t217L4l μ a0 a1 1000 (0, 0) o10 h13 ?_ 
  cases o10 with
  | inl x11 =>
    show ∀ (w0 : Value) (hw0 : mNotL w0 = true) (w1 : Value) (hw1 : mNotL w1 = true) (w3 : Value) (hw3 : mNotL w3 = true), mGo mG (217, List.drop 26 mC217, [w0, w1, .int x11, w3], [], μ) r
    intro w0 hw0 w1 hw1 w3 hw3
    replace hr : (_) = some _ := hr
    refine mGo.steps 1 (c' := (217, List.drop 27 mC217, [w0, w1, .int x11, w3], [.int x11], μ)) rfl ?_
    obtain ⟨h14, hr⟩ := mIf hr
    obtain rfl := Option.some.inj hr
    rw [show r = _ from hC]
    exact gZret rfl h14
  | inr y12 =>
    obtain rfl := Option.some.inj hr
    exact hC

/-! 218: TunnelFabricModel.rests(I)V -/
def s218L2 (p0 : Nat) (p1 : Int32) (s : Int32 × mM) : Option ((Int32 × mM) ⊕ ((mM) ⊕ mM)) :=
  if 2 ≤ s.1 then (some (.inr (.inl s.2))) else (if (mS s.2 p0).1 = 9 then if (mS s.2 (mP s.2 p0 15)).1 = 10 ∧ mInb ((2 * p1) + s.1) (mS s.2 (mP s.2 p0 15)).2 then (s156 s.2 p0 p1 s.1).bind fun q3 => if FP.fdiv (FP.i2f (mI s.2 (mP s.2 p0 15) (Int32.toNatClampNeg ((2 * p1) + s.1)))) (FP.i2f q3) &&& 0x7fffffff ≤ 0x7f800000 then if (mS s.2 (mP s.2 p0 1)).1 = 11 ∧ mInb ((2 * p1) + s.1) (mS s.2 (mP s.2 p0 1)).2 then if FP.fmul (mF s.2 (mP s.2 p0 1) (Int32.toNatClampNeg ((2 * p1) + s.1))) (UInt32.ofNat 1063256064) &&& 0x7fffffff ≤ 0x7f800000 then if FP.fmul (FP.fdiv (FP.i2f (mI s.2 (mP s.2 p0 15) (Int32.toNatClampNeg ((2 * p1) + s.1)))) (FP.i2f q3)) (UInt32.ofNat 1040187392) &&& 0x7fffffff ≤ 0x7f800000 then if FP.fadd (FP.fmul (mF s.2 (mP s.2 p0 1) (Int32.toNatClampNeg ((2 * p1) + s.1))) (UInt32.ofNat 1063256064)) (FP.fmul (FP.fdiv (FP.i2f (mI s.2 (mP s.2 p0 15) (Int32.toNatClampNeg ((2 * p1) + s.1)))) (FP.i2f q3)) (UInt32.ofNat 1040187392)) &&& 0x7fffffff ≤ 0x7f800000 then (some (mUF s.2 (mP s.2 p0 1) (Int32.toNatClampNeg ((2 * p1) + s.1)) (FP.fadd (FP.fmul (mF s.2 (mP s.2 p0 1) (Int32.toNatClampNeg ((2 * p1) + s.1))) (UInt32.ofNat 1063256064)) (FP.fmul (FP.fdiv (FP.i2f (mI s.2 (mP s.2 p0 15) (Int32.toNatClampNeg ((2 * p1) + s.1)))) (FP.i2f q3)) (UInt32.ofNat 1040187392))))).bind fun μ10 => some (.inl (s.1 + 1, μ10)) else none else none else none else none else none else none else none)
set_option maxRecDepth 20000 in
theorem t218L2 (p0 : Nat) (p1 : Int32) {r : Option Value × mM} (s : Int32 × mM) (o : ((Int32 × mM) ⊕ ((mM) ⊕ mM))) (hr : s218L2 p0 p1 s = some o) (hC : Sum.elim (fun s' : Int32 × mM => ∀ (w3 : Value) (hw3 : mNotL w3 = true) (w4 : Value) (hw4 : mNotL w4 = true), mGo mG (218, List.drop 2 mC218, [.ref p0, .int p1, .int s'.1, w3, w4], [], s'.2) r) (Sum.elim (fun x : mM => ∀ (w2 : Value) (hw2 : mNotL w2 = true) (w3 : Value) (hw3 : mNotL w3 = true) (w4 : Value) (hw4 : mNotL w4 = true), mGo mG (218, List.drop 39 mC218, [.ref p0, .int p1, w2, w3, w4], [], x) r) (fun y : mM => r = (none, y))) o) : ∀ (w3 : Value) (hw3 : mNotL w3 = true) (w4 : Value) (hw4 : mNotL w4 = true), mGo mG (218, List.drop 2 mC218, [.ref p0, .int p1, .int s.1, w3, w4], [], s.2) r := by
  intro w3 hw3 w4 hw4
  unfold s218L2 at hr
  refine mGo.steps 2 (c' := (218, List.drop 4 mC218, [.ref p0, .int p1, .int s.1, w3, w4], [.int 2, .int s.1], s.2)) rfl ?_
  rcases mIte hr with ⟨h11, hr⟩ | ⟨h11, hr⟩
  · refine gBrT (p := 2 ≤ s.1) (y := 218) (is := List.drop 5 mC218) (L := [.ref p0, .int p1, .int s.1, w3, w4]) (st := []) (μ := s.2) (t := 57) rfl h11 ?_
    obtain rfl := Option.some.inj hr
    exact hC (.int s.1) rfl w3 hw3 w4 hw4
  · refine gBrF (p := 2 ≤ s.1) (y := 218) (is := List.drop 5 mC218) (L := [.ref p0, .int p1, .int s.1, w3, w4]) (st := []) (μ := s.2) (t := 57) rfl h11 ?_
    refine mGo.steps 7 (c' := (218, List.drop 12 mC218, [.ref p0, .int p1, .int s.1, .int ((2 * p1) + s.1), w4], [.ref p0], s.2)) rfl ?_
    obtain ⟨h1, hr⟩ := mIf hr
    refine gGet (is := List.drop 13 mC218) (v := .ref (mP s.2 p0 15)) h1 rfl ?_
    refine mGo.steps 1 (c' := (218, List.drop 14 mC218, [.ref p0, .int p1, .int s.1, .int ((2 * p1) + s.1), w4], [.int ((2 * p1) + s.1), .ref (mP s.2 p0 15)], s.2)) rfl ?_
    obtain ⟨h2, hr⟩ := mIf hr
    refine gIald (is := List.drop 15 mC218) h2 ?_
    refine mGo.steps 4 (c' := (218, List.drop 19 mC218, [.ref p0, .int p1, .int s.1, .int ((2 * p1) + s.1), w4], [.int s.1, .int p1, .ref p0, .float (FP.i2f (mI s.2 (mP s.2 p0 15) (Int32.toNatClampNeg ((2 * p1) + s.1))))], s.2)) rfl ?_
    obtain ⟨q3, h4, hr⟩ := mBi hr
    refine gCall (z := 156) (n := 2) (f := 0) (kind := 1) (a := p0) (As := [.int p1, .int s.1]) (y := 218) (is := List.drop 20 mC218) (L := [.ref p0, .int p1, .int s.1, .int ((2 * p1) + s.1), w4]) (rest := [.float (FP.i2f (mI s.2 (mP s.2 p0 15) (Int32.toNatClampNeg ((2 * p1) + s.1))))]) (μ := s.2) rfl (by decide) (by decide) ⟨rfl, rfl⟩ rfl h1 (Nat.le_of_ble_eq_true rfl) (Nat.le_of_ble_eq_true rfl) (t156 h4) ?_
    refine mGo.steps 1 (c' := (218, List.drop 21 mC218, [.ref p0, .int p1, .int s.1, .int ((2 * p1) + s.1), w4], [.float (FP.i2f q3), .float (FP.i2f (mI s.2 (mP s.2 p0 15) (Int32.toNatClampNeg ((2 * p1) + s.1))))], s.2)) rfl ?_
    obtain ⟨h5, hr⟩ := mIf hr
    refine gFdiv (is := List.drop 22 mC218) h5 ?_
    refine mGo.steps 2 (c' := (218, List.drop 24 mC218, [.ref p0, .int p1, .int s.1, .int ((2 * p1) + s.1), .float (FP.fdiv (FP.i2f (mI s.2 (mP s.2 p0 15) (Int32.toNatClampNeg ((2 * p1) + s.1)))) (FP.i2f q3))], [.ref p0], s.2)) rfl ?_
    refine gGet (is := List.drop 25 mC218) (v := .ref (mP s.2 p0 1)) h1 rfl ?_
    refine mGo.steps 2 (c' := (218, List.drop 27 mC218, [.ref p0, .int p1, .int s.1, .int ((2 * p1) + s.1), .float (FP.fdiv (FP.i2f (mI s.2 (mP s.2 p0 15) (Int32.toNatClampNeg ((2 * p1) + s.1)))) (FP.i2f q3))], [.ref p0, .int ((2 * p1) + s.1), .ref (mP s.2 p0 1)], s.2)) rfl ?_
    refine gGet (is := List.drop 28 mC218) (v := .ref (mP s.2 p0 1)) h1 rfl ?_
    refine mGo.steps 1 (c' := (218, List.drop 29 mC218, [.ref p0, .int p1, .int s.1, .int ((2 * p1) + s.1), .float (FP.fdiv (FP.i2f (mI s.2 (mP s.2 p0 15) (Int32.toNatClampNeg ((2 * p1) + s.1)))) (FP.i2f q3))], [.int ((2 * p1) + s.1), .ref (mP s.2 p0 1), .int ((2 * p1) + s.1), .ref (mP s.2 p0 1)], s.2)) rfl ?_
    obtain ⟨h6, hr⟩ := mIf hr
    refine gFald (is := List.drop 30 mC218) h6 ?_
    refine mGo.steps 1 (c' := (218, List.drop 31 mC218, [.ref p0, .int p1, .int s.1, .int ((2 * p1) + s.1), .float (FP.fdiv (FP.i2f (mI s.2 (mP s.2 p0 15) (Int32.toNatClampNeg ((2 * p1) + s.1)))) (FP.i2f q3))], [.float (UInt32.ofNat 1063256064), .float (mF s.2 (mP s.2 p0 1) (Int32.toNatClampNeg ((2 * p1) + s.1))), .int ((2 * p1) + s.1), .ref (mP s.2 p0 1)], s.2)) rfl ?_
    obtain ⟨h7, hr⟩ := mIf hr
    refine gFmul (is := List.drop 32 mC218) h7 ?_
    refine mGo.steps 2 (c' := (218, List.drop 34 mC218, [.ref p0, .int p1, .int s.1, .int ((2 * p1) + s.1), .float (FP.fdiv (FP.i2f (mI s.2 (mP s.2 p0 15) (Int32.toNatClampNeg ((2 * p1) + s.1)))) (FP.i2f q3))], [.float (UInt32.ofNat 1040187392), .float (FP.fdiv (FP.i2f (mI s.2 (mP s.2 p0 15) (Int32.toNatClampNeg ((2 * p1) + s.1)))) (FP.i2f q3)), .float (FP.fmul (mF s.2 (mP s.2 p0 1) (Int32.toNatClampNeg ((2 * p1) + s.1))) (UInt32.ofNat 1063256064)), .int ((2 * p1) + s.1), .ref (mP s.2 p0 1)], s.2)) rfl ?_
    obtain ⟨h8, hr⟩ := mIf hr
    refine gFmul (is := List.drop 35 mC218) h8 ?_
    obtain ⟨h9, hr⟩ := mIf hr
    refine gFadd (is := List.drop 36 mC218) h9 ?_
    replace hr := mBs hr
    refine gFast (is := List.drop 37 mC218) h6 ?_
    let μ10 : mM := mUF s.2 (mP s.2 p0 1) (Int32.toNatClampNeg ((2 * p1) + s.1)) (FP.fadd (FP.fmul (mF s.2 (mP s.2 p0 1) (Int32.toNatClampNeg ((2 * p1) + s.1))) (UInt32.ofNat 1063256064)) (FP.fmul (FP.fdiv (FP.i2f (mI s.2 (mP s.2 p0 15) (Int32.toNatClampNeg ((2 * p1) + s.1)))) (FP.i2f q3)) (UInt32.ofNat 1040187392)))
    refine mGo.steps 2 (c' := (218, List.drop 2 mC218, [.ref p0, .int p1, .int (s.1 + 1), .int ((2 * p1) + s.1), .float (FP.fdiv (FP.i2f (mI s.2 (mP s.2 p0 15) (Int32.toNatClampNeg ((2 * p1) + s.1)))) (FP.i2f q3))], [], μ10)) rfl ?_
    obtain rfl := Option.some.inj hr
    exact hC (.int ((2 * p1) + s.1)) rfl (.float (FP.fdiv (FP.i2f (mI s.2 (mP s.2 p0 15) (Int32.toNatClampNeg ((2 * p1) + s.1)))) (FP.i2f q3))) rfl
theorem t218L2l (p0 : Nat) (p1 : Int32) {r : Option Value × mM} (n : Nat) (s : Int32 × mM) (o : (mM) ⊕ mM) (hr : mLoop (s218L2 p0 p1) n s = some o) (hC : Sum.elim (fun x : mM => ∀ (w2 : Value) (hw2 : mNotL w2 = true) (w3 : Value) (hw3 : mNotL w3 = true) (w4 : Value) (hw4 : mNotL w4 = true), mGo mG (218, List.drop 39 mC218, [.ref p0, .int p1, w2, w3, w4], [], x) r) (fun y : mM => r = (none, y)) o) : ∀ (w3 : Value) (hw3 : mNotL w3 = true) (w4 : Value) (hw4 : mNotL w4 = true), mGo mG (218, List.drop 2 mC218, [.ref p0, .int p1, .int s.1, w3, w4], [], s.2) r :=
  mLoop_go (Hd := (fun s' : Int32 × mM => ∀ (w3 : Value) (hw3 : mNotL w3 = true) (w4 : Value) (hw4 : mNotL w4 = true), mGo mG (218, List.drop 2 mC218, [.ref p0, .int p1, .int s'.1, w3, w4], [], s'.2) r)) (fun s o hb hC => t218L2 p0 p1 s o hb hC) n s o hr hC
def s218_114 (a0 : Nat) (a1 : Int32) (μ : mM) : Option mM :=
  some μ
set_option maxRecDepth 20000 in
theorem t218_114 (a0 : Nat) (a1 : Int32) (μ : mM) (w0 : Value) (hw0 : mNotL w0 = true) (w1 : Value) (hw1 : mNotL w1 = true) (w2 : Value) (hw2 : mNotL w2 = true) (w3 : Value) (hw3 : mNotL w3 = true) (w4 : Value) (hw4 : mNotL w4 = true) {o : mM} {r : Option Value × mM} (hr : s218_114 a0 a1 μ = some o) (hC : r = (none, o)) : mGo mG (218, List.drop 114 mC218, [w0, w1, w2, w3, w4], [], μ) r := by
  unfold s218_114 at hr
  obtain rfl := Option.some.inj hr
  rw [show r = _ from hC]
  exact gVret rfl
def s218_92 (a0 : Nat) (a1 : Int32) (μ : mM) (t0 : Int32) (t1 : Int32) (t2 : Int32) (t3 : Nat) : Option mM :=
  if (mS μ t3).1 = 9 then (s149 μ t3 t2 t1 t0).bind fun q37 => s218_114 a0 a1 q37 else none
set_option maxRecDepth 20000 in
theorem t218_92 (a0 : Nat) (a1 : Int32) (μ : mM) (t0 : Int32) (t1 : Int32) (t2 : Int32) (t3 : Nat) (w0 : Value) (hw0 : mNotL w0 = true) (w1 : Value) (hw1 : mNotL w1 = true) (w2 : Value) (hw2 : mNotL w2 = true) (w3 : Value) (hw3 : mNotL w3 = true) (w4 : Value) (hw4 : mNotL w4 = true) {o : mM} {r : Option Value × mM} (hr : s218_92 a0 a1 μ t0 t1 t2 t3 = some o) (hC : r = (none, o)) : mGo mG (218, List.drop 92 mC218, [w0, w1, w2, w3, w4], [.int t0, .int t1, .int t2, .ref t3], μ) r := by
  unfold s218_92 at hr
  obtain ⟨h36, hr⟩ := mIf hr
  obtain ⟨q37, h38, hr⟩ := mBi hr
  refine gCall (z := 149) (n := 3) (f := 0) (kind := 1) (a := t3) (As := [.int t2, .int t1, .int t0]) (y := 218) (is := List.drop 93 mC218) (L := [w0, w1, w2, w3, w4]) (rest := []) (μ := μ) rfl (by decide) (by decide) ⟨rfl, rfl⟩ rfl h36 (Nat.le_of_ble_eq_true rfl) (Nat.le_of_ble_eq_true rfl) (t149 h38) ?_
  refine mGo.steps 1 (c' := (218, List.drop 114 mC218, [w0, w1, w2, w3, w4], [], q37)) rfl ?_
  exact t218_114 a0 a1 q37 w0 hw0 w1 hw1 w2 hw2 w3 hw3 w4 hw4 hr hC
def s218_80 (a0 : Nat) (a1 : Int32) (μ : mM) (v2 : Int32) (v3 : Int32) (t0 : Int32) (t1 : Int32) (t2 : Int32) (t3 : Nat) : Option mM :=
  if (mS μ t3).1 = 9 then (s149 μ t3 t2 t1 t0).bind fun q23 => if ¬ v3 = 1 then (if ¬ v3 = 0 then (s218_114 a0 a1 q23) else (if (mS q23 a0).1 = 9 then (s148 q23 a0 a1 7).bind fun q26 => if (mS q23 (mP q23 a0 0)).1 = 10 ∧ mInb 431 (mS q23 (mP q23 a0 0)).2 then if q26 < (mI q23 (mP q23 a0 0) (Int32.toNatClampNeg 431)) then (s218_114 a0 a1 q23) else ((s217 q23 a0 a1).bind fun q29 => if ¬ q29 = 0 then (s218_114 a0 a1 q23) else ((s149 q23 a0 a1 6 1).bind fun q31 => s218_114 a0 a1 q31)) else none else none)) else (if v2 = 0 then (s218_92 a0 a1 q23 0 6 a1 a0) else (s218_92 a0 a1 q23 2 6 a1 a0)) else none
set_option maxRecDepth 20000 in
theorem t218_80 (a0 : Nat) (a1 : Int32) (μ : mM) (v2 : Int32) (v3 : Int32) (t0 : Int32) (t1 : Int32) (t2 : Int32) (t3 : Nat) (w4 : Value) (hw4 : mNotL w4 = true) {o : mM} {r : Option Value × mM} (hr : s218_80 a0 a1 μ v2 v3 t0 t1 t2 t3 = some o) (hC : r = (none, o)) : mGo mG (218, List.drop 80 mC218, [.ref a0, .int a1, .int v2, .int v3, w4], [.int t0, .int t1, .int t2, .ref t3], μ) r := by
  unfold s218_80 at hr
  obtain ⟨h22, hr⟩ := mIf hr
  obtain ⟨q23, h24, hr⟩ := mBi hr
  refine gCall (z := 149) (n := 3) (f := 0) (kind := 1) (a := t3) (As := [.int t2, .int t1, .int t0]) (y := 218) (is := List.drop 81 mC218) (L := [.ref a0, .int a1, .int v2, .int v3, w4]) (rest := []) (μ := μ) rfl (by decide) (by decide) ⟨rfl, rfl⟩ rfl h22 (Nat.le_of_ble_eq_true rfl) (Nat.le_of_ble_eq_true rfl) (t149 h24) ?_
  refine mGo.steps 2 (c' := (218, List.drop 83 mC218, [.ref a0, .int a1, .int v2, .int v3, w4], [.int 1, .int v3], q23)) rfl ?_
  rcases mIte hr with ⟨h40, hr⟩ | ⟨h40, hr⟩
  · refine gBrT (p := ¬ v3 = 1) (y := 218) (is := List.drop 84 mC218) (L := [.ref a0, .int a1, .int v2, .int v3, w4]) (st := []) (μ := q23) (t := 146) rfl h40 ?_
    refine mGo.steps 1 (c' := (218, List.drop 95 mC218, [.ref a0, .int a1, .int v2, .int v3, w4], [.int v3], q23)) rfl ?_
    rcases mIte hr with ⟨h35, hr⟩ | ⟨h35, hr⟩
    · refine gBrT (p := ¬ v3 = 0) (y := 218) (is := List.drop 96 mC218) (L := [.ref a0, .int a1, .int v2, .int v3, w4]) (st := []) (μ := q23) (t := 184) rfl h35 ?_
      exact t218_114 a0 a1 q23 (.ref a0) rfl (.int a1) rfl (.int v2) rfl (.int v3) rfl w4 hw4 hr hC
    · refine gBrF (p := ¬ v3 = 0) (y := 218) (is := List.drop 96 mC218) (L := [.ref a0, .int a1, .int v2, .int v3, w4]) (st := []) (μ := q23) (t := 184) rfl h35 ?_
      refine mGo.steps 3 (c' := (218, List.drop 99 mC218, [.ref a0, .int a1, .int v2, .int v3, w4], [.int 7, .int a1, .ref a0], q23)) rfl ?_
      obtain ⟨h25, hr⟩ := mIf hr
      obtain ⟨q26, h27, hr⟩ := mBi hr
      refine gCall (z := 148) (n := 2) (f := 0) (kind := 1) (a := a0) (As := [.int a1, .int 7]) (y := 218) (is := List.drop 100 mC218) (L := [.ref a0, .int a1, .int v2, .int v3, w4]) (rest := []) (μ := q23) rfl (by decide) (by decide) ⟨rfl, rfl⟩ rfl h25 (Nat.le_of_ble_eq_true rfl) (Nat.le_of_ble_eq_true rfl) (t148 h27) ?_
      refine mGo.steps 1 (c' := (218, List.drop 101 mC218, [.ref a0, .int a1, .int v2, .int v3, w4], [.ref a0, .int q26], q23)) rfl ?_
      refine gGet (is := List.drop 102 mC218) (v := .ref (mP q23 a0 0)) h25 rfl ?_
      refine mGo.steps 1 (c' := (218, List.drop 103 mC218, [.ref a0, .int a1, .int v2, .int v3, w4], [.int 431, .ref (mP q23 a0 0), .int q26], q23)) rfl ?_
      obtain ⟨h28, hr⟩ := mIf hr
      refine gIald (is := List.drop 104 mC218) h28 ?_
      rcases mIte hr with ⟨h34, hr⟩ | ⟨h34, hr⟩
      · refine gBrT (p := q26 < (mI q23 (mP q23 a0 0) (Int32.toNatClampNeg 431))) (y := 218) (is := List.drop 105 mC218) (L := [.ref a0, .int a1, .int v2, .int v3, w4]) (st := []) (μ := q23) (t := 184) rfl h34 ?_
        exact t218_114 a0 a1 q23 (.ref a0) rfl (.int a1) rfl (.int v2) rfl (.int v3) rfl w4 hw4 hr hC
      · refine gBrF (p := q26 < (mI q23 (mP q23 a0 0) (Int32.toNatClampNeg 431))) (y := 218) (is := List.drop 105 mC218) (L := [.ref a0, .int a1, .int v2, .int v3, w4]) (st := []) (μ := q23) (t := 184) rfl h34 ?_
        refine mGo.steps 2 (c' := (218, List.drop 107 mC218, [.ref a0, .int a1, .int v2, .int v3, w4], [.int a1, .ref a0], q23)) rfl ?_
        obtain ⟨q29, h30, hr⟩ := mBi hr
        refine gCall (z := 217) (n := 1) (f := 0) (kind := 1) (a := a0) (As := [.int a1]) (y := 218) (is := List.drop 108 mC218) (L := [.ref a0, .int a1, .int v2, .int v3, w4]) (rest := []) (μ := q23) rfl (by decide) (by decide) ⟨rfl, rfl⟩ rfl h25 (Nat.le_of_ble_eq_true rfl) (Nat.le_of_ble_eq_true rfl) (t217 h30) ?_
        rcases mIte hr with ⟨h33, hr⟩ | ⟨h33, hr⟩
        · refine gBrT (p := ¬ q29 = 0) (y := 218) (is := List.drop 109 mC218) (L := [.ref a0, .int a1, .int v2, .int v3, w4]) (st := []) (μ := q23) (t := 184) rfl h33 ?_
          exact t218_114 a0 a1 q23 (.ref a0) rfl (.int a1) rfl (.int v2) rfl (.int v3) rfl w4 hw4 hr hC
        · refine gBrF (p := ¬ q29 = 0) (y := 218) (is := List.drop 109 mC218) (L := [.ref a0, .int a1, .int v2, .int v3, w4]) (st := []) (μ := q23) (t := 184) rfl h33 ?_
          refine mGo.steps 4 (c' := (218, List.drop 113 mC218, [.ref a0, .int a1, .int v2, .int v3, w4], [.int 1, .int 6, .int a1, .ref a0], q23)) rfl ?_
          obtain ⟨q31, h32, hr⟩ := mBi hr
          refine gCall (z := 149) (n := 3) (f := 0) (kind := 1) (a := a0) (As := [.int a1, .int 6, .int 1]) (y := 218) (is := List.drop 114 mC218) (L := [.ref a0, .int a1, .int v2, .int v3, w4]) (rest := []) (μ := q23) rfl (by decide) (by decide) ⟨rfl, rfl⟩ rfl h25 (Nat.le_of_ble_eq_true rfl) (Nat.le_of_ble_eq_true rfl) (t149 h32) ?_
          exact t218_114 a0 a1 q31 (.ref a0) rfl (.int a1) rfl (.int v2) rfl (.int v3) rfl w4 hw4 hr hC
  · refine gBrF (p := ¬ v3 = 1) (y := 218) (is := List.drop 84 mC218) (L := [.ref a0, .int a1, .int v2, .int v3, w4]) (st := []) (μ := q23) (t := 146) rfl h40 ?_
    refine mGo.steps 4 (c' := (218, List.drop 88 mC218, [.ref a0, .int a1, .int v2, .int v3, w4], [.int v2, .int 6, .int a1, .ref a0], q23)) rfl ?_
    rcases mIte hr with ⟨h39, hr⟩ | ⟨h39, hr⟩
    · refine gBrT (p := v2 = 0) (y := 218) (is := List.drop 89 mC218) (L := [.ref a0, .int a1, .int v2, .int v3, w4]) (st := [.int 6, .int a1, .ref a0]) (μ := q23) (t := 139) rfl h39 ?_
      refine mGo.steps 1 (c' := (218, List.drop 92 mC218, [.ref a0, .int a1, .int v2, .int v3, w4], [.int 0, .int 6, .int a1, .ref a0], q23)) rfl ?_
      exact t218_92 a0 a1 q23 0 6 a1 a0 (.ref a0) rfl (.int a1) rfl (.int v2) rfl (.int v3) rfl w4 hw4 hr hC
    · refine gBrF (p := v2 = 0) (y := 218) (is := List.drop 89 mC218) (L := [.ref a0, .int a1, .int v2, .int v3, w4]) (st := [.int 6, .int a1, .ref a0]) (μ := q23) (t := 139) rfl h39 ?_
      refine mGo.steps 2 (c' := (218, List.drop 92 mC218, [.ref a0, .int a1, .int v2, .int v3, w4], [.int 2, .int 6, .int a1, .ref a0], q23)) rfl ?_
      exact t218_92 a0 a1 q23 2 6 a1 a0 (.ref a0) rfl (.int a1) rfl (.int v2) rfl (.int v3) rfl w4 hw4 hr hC
def s218_79 (a0 : Nat) (a1 : Int32) (μ : mM) (v2 : Int32) (v3 : Int32) (t0 : Int32) (t1 : Int32) (t2 : Nat) : Option mM :=
  s218_80 a0 a1 μ v2 v3 0 t0 t1 t2
set_option maxRecDepth 20000 in
theorem t218_79 (a0 : Nat) (a1 : Int32) (μ : mM) (v2 : Int32) (v3 : Int32) (t0 : Int32) (t1 : Int32) (t2 : Nat) (w4 : Value) (hw4 : mNotL w4 = true) {o : mM} {r : Option Value × mM} (hr : s218_79 a0 a1 μ v2 v3 t0 t1 t2 = some o) (hC : r = (none, o)) : mGo mG (218, List.drop 79 mC218, [.ref a0, .int a1, .int v2, .int v3, w4], [.int t0, .int t1, .ref t2], μ) r := by
  unfold s218_79 at hr
  refine mGo.steps 1 (c' := (218, List.drop 80 mC218, [.ref a0, .int a1, .int v2, .int v3, w4], [.int 0, .int t0, .int t1, .ref t2], μ)) rfl ?_
  exact t218_80 a0 a1 μ v2 v3 0 t0 t1 t2 w4 hw4 hr hC
def s218_58 (a0 : Nat) (a1 : Int32) (μ : mM) (t0 : Int32) : Option mM :=
  if (mS μ a0).1 = 9 then (s148 μ a0 a1 6).bind fun q20 => if 2 ≤ q20 then (s218_79 a0 a1 μ t0 q20 7 a1 a0) else (if t0 = 0 then (s218_79 a0 a1 μ t0 q20 7 a1 a0) else ((s148 μ a0 a1 7).bind fun q41 => s218_80 a0 a1 μ t0 q20 (q41 + 1) 7 a1 a0)) else none
set_option maxRecDepth 20000 in
theorem t218_58 (a0 : Nat) (a1 : Int32) (μ : mM) (t0 : Int32) (w2 : Value) (hw2 : mNotL w2 = true) (w3 : Value) (hw3 : mNotL w3 = true) (w4 : Value) (hw4 : mNotL w4 = true) {o : mM} {r : Option Value × mM} (hr : s218_58 a0 a1 μ t0 = some o) (hC : r = (none, o)) : mGo mG (218, List.drop 58 mC218, [.ref a0, .int a1, w2, w3, w4], [.int t0], μ) r := by
  unfold s218_58 at hr
  refine mGo.steps 4 (c' := (218, List.drop 62 mC218, [.ref a0, .int a1, .int t0, w3, w4], [.int 6, .int a1, .ref a0], μ)) rfl ?_
  obtain ⟨h19, hr⟩ := mIf hr
  obtain ⟨q20, h21, hr⟩ := mBi hr
  refine gCall (z := 148) (n := 2) (f := 0) (kind := 1) (a := a0) (As := [.int a1, .int 6]) (y := 218) (is := List.drop 63 mC218) (L := [.ref a0, .int a1, .int t0, w3, w4]) (rest := []) (μ := μ) rfl (by decide) (by decide) ⟨rfl, rfl⟩ rfl h19 (Nat.le_of_ble_eq_true rfl) (Nat.le_of_ble_eq_true rfl) (t148 h21) ?_
  refine mGo.steps 6 (c' := (218, List.drop 69 mC218, [.ref a0, .int a1, .int t0, .int q20, w4], [.int 2, .int q20, .int 7, .int a1, .ref a0], μ)) rfl ?_
  rcases mIte hr with ⟨h44, hr⟩ | ⟨h44, hr⟩
  · refine gBrT (p := 2 ≤ q20) (y := 218) (is := List.drop 70 mC218) (L := [.ref a0, .int a1, .int t0, .int q20, w4]) (st := [.int 7, .int a1, .ref a0]) (μ := μ) (t := 118) rfl h44 ?_
    exact t218_79 a0 a1 μ t0 q20 7 a1 a0 w4 hw4 hr hC
  · refine gBrF (p := 2 ≤ q20) (y := 218) (is := List.drop 70 mC218) (L := [.ref a0, .int a1, .int t0, .int q20, w4]) (st := [.int 7, .int a1, .ref a0]) (μ := μ) (t := 118) rfl h44 ?_
    refine mGo.steps 1 (c' := (218, List.drop 71 mC218, [.ref a0, .int a1, .int t0, .int q20, w4], [.int t0, .int 7, .int a1, .ref a0], μ)) rfl ?_
    rcases mIte hr with ⟨h43, hr⟩ | ⟨h43, hr⟩
    · refine gBrT (p := t0 = 0) (y := 218) (is := List.drop 72 mC218) (L := [.ref a0, .int a1, .int t0, .int q20, w4]) (st := [.int 7, .int a1, .ref a0]) (μ := μ) (t := 118) rfl h43 ?_
      exact t218_79 a0 a1 μ t0 q20 7 a1 a0 w4 hw4 hr hC
    · refine gBrF (p := t0 = 0) (y := 218) (is := List.drop 72 mC218) (L := [.ref a0, .int a1, .int t0, .int q20, w4]) (st := [.int 7, .int a1, .ref a0]) (μ := μ) (t := 118) rfl h43 ?_
      refine mGo.steps 3 (c' := (218, List.drop 75 mC218, [.ref a0, .int a1, .int t0, .int q20, w4], [.int 7, .int a1, .ref a0, .int 7, .int a1, .ref a0], μ)) rfl ?_
      obtain ⟨q41, h42, hr⟩ := mBi hr
      refine gCall (z := 148) (n := 2) (f := 0) (kind := 1) (a := a0) (As := [.int a1, .int 7]) (y := 218) (is := List.drop 76 mC218) (L := [.ref a0, .int a1, .int t0, .int q20, w4]) (rest := [.int 7, .int a1, .ref a0]) (μ := μ) rfl (by decide) (by decide) ⟨rfl, rfl⟩ rfl h19 (Nat.le_of_ble_eq_true rfl) (Nat.le_of_ble_eq_true rfl) (t148 h42) ?_
      refine mGo.steps 3 (c' := (218, List.drop 80 mC218, [.ref a0, .int a1, .int t0, .int q20, w4], [.int (q41 + 1), .int 7, .int a1, .ref a0], μ)) rfl ?_
      exact t218_80 a0 a1 μ t0 q20 (q41 + 1) 7 a1 a0 w4 hw4 hr hC
def s218 (μ : mM) (a0 : Nat) (a1 : Int32) : Option mM :=
  (mLoop (s218L2 a0 a1) 1000 (0, μ)).bind fun o12 => Sum.elim (fun x13 => if (mS x13 a0).1 = 9 then if (mS x13 (mP x13 a0 15)).1 = 10 ∧ mInb (2 * a1) (mS x13 (mP x13 a0 15)).2 then if (mS x13 (mP x13 a0 15)).1 = 10 ∧ mInb ((2 * a1) + 1) (mS x13 (mP x13 a0 15)).2 then if ¬ ((mI x13 (mP x13 a0 15) (Int32.toNatClampNeg (2 * a1))) + (mI x13 (mP x13 a0 15) (Int32.toNatClampNeg ((2 * a1) + 1)))) = 0 then (s218_58 a0 a1 x13 0) else (s218_58 a0 a1 x13 1) else none else none else none) (fun y14 => some y14) o12
set_option maxRecDepth 20000 in
theorem t218 {μ : mM} {a0 : Nat} {a1 : Int32} {o : mM} (hr : s218 μ a0 a1 = some o) : mEv mG 218 [.ref a0, .int a1] μ (none) (o) := by
  obtain ⟨r, hC⟩ : ∃ r : Option Value × mM, r = (none, o) := ⟨_, rfl⟩
  show mGo mG (218, List.drop 0 mC218, [.ref a0, .int a1, .retAddr 0, .retAddr 0, .retAddr 0], [], μ) (none, o)
  rw [← hC]
  unfold s218 at hr
  refine mGo.steps 2 (c' := (218, List.drop 2 mC218, [.ref a0, .int a1, .int 0, .retAddr 0, .retAddr 0], [], μ)) rfl ?_
  obtain ⟨o12, h15, hr⟩ := mBi hr
  refine t218L2l a0 a1 1000 (0, μ) o12 h15 ?_ (.retAddr 0) rfl (.retAddr 0) rfl
  cases o12 with
  | inl x13 =>
    show ∀ (w2 : Value) (hw2 : mNotL w2 = true) (w3 : Value) (hw3 : mNotL w3 = true) (w4 : Value) (hw4 : mNotL w4 = true), mGo mG (218, List.drop 39 mC218, [.ref a0, .int a1, w2, w3, w4], [], x13) r
    intro w2 hw2 w3 hw3 w4 hw4
    replace hr : (_) = some _ := hr
    refine mGo.steps 1 (c' := (218, List.drop 40 mC218, [.ref a0, .int a1, w2, w3, w4], [.ref a0], x13)) rfl ?_
    obtain ⟨h16, hr⟩ := mIf hr
    refine gGet (is := List.drop 41 mC218) (v := .ref (mP x13 a0 15)) h16 rfl ?_
    refine mGo.steps 3 (c' := (218, List.drop 44 mC218, [.ref a0, .int a1, w2, w3, w4], [.int (2 * a1), .ref (mP x13 a0 15)], x13)) rfl ?_
    obtain ⟨h17, hr⟩ := mIf hr
    refine gIald (is := List.drop 45 mC218) h17 ?_
    refine mGo.steps 1 (c' := (218, List.drop 46 mC218, [.ref a0, .int a1, w2, w3, w4], [.ref a0, .int (mI x13 (mP x13 a0 15) (Int32.toNatClampNeg (2 * a1)))], x13)) rfl ?_
    refine gGet (is := List.drop 47 mC218) (v := .ref (mP x13 a0 15)) h16 rfl ?_
    refine mGo.steps 5 (c' := (218, List.drop 52 mC218, [.ref a0, .int a1, w2, w3, w4], [.int ((2 * a1) + 1), .ref (mP x13 a0 15), .int (mI x13 (mP x13 a0 15) (Int32.toNatClampNeg (2 * a1)))], x13)) rfl ?_
    obtain ⟨h18, hr⟩ := mIf hr
    refine gIald (is := List.drop 53 mC218) h18 ?_
    refine mGo.steps 1 (c' := (218, List.drop 54 mC218, [.ref a0, .int a1, w2, w3, w4], [.int ((mI x13 (mP x13 a0 15) (Int32.toNatClampNeg (2 * a1))) + (mI x13 (mP x13 a0 15) (Int32.toNatClampNeg ((2 * a1) + 1))))], x13)) rfl ?_
    rcases mIte hr with ⟨h45, hr⟩ | ⟨h45, hr⟩
    · refine gBrT (p := ¬ ((mI x13 (mP x13 a0 15) (Int32.toNatClampNeg (2 * a1))) + (mI x13 (mP x13 a0 15) (Int32.toNatClampNeg ((2 * a1) + 1)))) = 0) (y := 218) (is := List.drop 55 mC218) (L := [.ref a0, .int a1, w2, w3, w4]) (st := []) (μ := x13) (t := 83) rfl h45 ?_
      refine mGo.steps 1 (c' := (218, List.drop 58 mC218, [.ref a0, .int a1, w2, w3, w4], [.int 0], x13)) rfl ?_
      exact t218_58 a0 a1 x13 0 w2 hw2 w3 hw3 w4 hw4 hr hC
    · refine gBrF (p := ¬ ((mI x13 (mP x13 a0 15) (Int32.toNatClampNeg (2 * a1))) + (mI x13 (mP x13 a0 15) (Int32.toNatClampNeg ((2 * a1) + 1)))) = 0) (y := 218) (is := List.drop 55 mC218) (L := [.ref a0, .int a1, w2, w3, w4]) (st := []) (μ := x13) (t := 83) rfl h45 ?_
      refine mGo.steps 2 (c' := (218, List.drop 58 mC218, [.ref a0, .int a1, w2, w3, w4], [.int 1], x13)) rfl ?_
      exact t218_58 a0 a1 x13 1 w2 hw2 w3 hw3 w4 hw4 hr hC
  | inr y14 =>
    obtain rfl := Option.some.inj hr
    exact hC

/-! 219: TunnelFabricModel.oneTick()I -/
def s219L4 (p0 : Nat) (s : Int32 × mM) : Option ((Int32 × mM) ⊕ ((mM) ⊕ (Int32 × mM))) :=
  if 80 ≤ s.1 then (some (.inr (.inl s.2))) else (if (mS s.2 p0).1 = 9 then if (mS s.2 (mP s.2 p0 14)).1 = 10 ∧ mInb s.1 (mS s.2 (mP s.2 p0 14)).2 then (some (mUI s.2 (mP s.2 p0 14) (Int32.toNatClampNeg s.1) 0)).bind fun μ6 => some (.inl (s.1 + 1, μ6)) else none else none)
set_option maxRecDepth 20000 in
theorem t219L4 (p0 : Nat) {r : Option Value × mM} (s : Int32 × mM) (o : ((Int32 × mM) ⊕ ((mM) ⊕ (Int32 × mM)))) (hr : s219L4 p0 s = some o) (hC : Sum.elim (fun s' : Int32 × mM => ∀ (w2 : Value) (hw2 : mNotL w2 = true), mGo mG (219, List.drop 4 mC219, [.ref p0, .int s'.1, w2], [], s'.2) r) (Sum.elim (fun x : mM => ∀ (w1 : Value) (hw1 : mNotL w1 = true) (w2 : Value) (hw2 : mNotL w2 = true), mGo mG (219, List.drop 14 mC219, [.ref p0, w1, w2], [], x) r) (fun y : (Int32 × mM) => r = (some (.int y.1), y.2))) o) : ∀ (w2 : Value) (hw2 : mNotL w2 = true), mGo mG (219, List.drop 4 mC219, [.ref p0, .int s.1, w2], [], s.2) r := by
  intro w2 hw2
  unfold s219L4 at hr
  refine mGo.steps 2 (c' := (219, List.drop 6 mC219, [.ref p0, .int s.1, w2], [.int 80, .int s.1], s.2)) rfl ?_
  rcases mIte hr with ⟨h7, hr⟩ | ⟨h7, hr⟩
  · refine gBrT (p := 80 ≤ s.1) (y := 219) (is := List.drop 7 mC219) (L := [.ref p0, .int s.1, w2]) (st := []) (μ := s.2) (t := 25) rfl h7 ?_
    obtain rfl := Option.some.inj hr
    exact hC (.int s.1) rfl w2 hw2
  · refine gBrF (p := 80 ≤ s.1) (y := 219) (is := List.drop 7 mC219) (L := [.ref p0, .int s.1, w2]) (st := []) (μ := s.2) (t := 25) rfl h7 ?_
    refine mGo.steps 1 (c' := (219, List.drop 8 mC219, [.ref p0, .int s.1, w2], [.ref p0], s.2)) rfl ?_
    obtain ⟨h4, hr⟩ := mIf hr
    refine gGet (is := List.drop 9 mC219) (v := .ref (mP s.2 p0 14)) h4 rfl ?_
    refine mGo.steps 2 (c' := (219, List.drop 11 mC219, [.ref p0, .int s.1, w2], [.int 0, .int s.1, .ref (mP s.2 p0 14)], s.2)) rfl ?_
    obtain ⟨h5, hr⟩ := mIf hr
    replace hr := mBs hr
    refine gIast (is := List.drop 12 mC219) h5 ?_
    let μ6 : mM := mUI s.2 (mP s.2 p0 14) (Int32.toNatClampNeg s.1) 0
    refine mGo.steps 2 (c' := (219, List.drop 4 mC219, [.ref p0, .int (s.1 + 1), w2], [], μ6)) rfl ?_
    obtain rfl := Option.some.inj hr
    exact hC w2 hw2
theorem t219L4l (p0 : Nat) {r : Option Value × mM} (n : Nat) (s : Int32 × mM) (o : (mM) ⊕ (Int32 × mM)) (hr : mLoop (s219L4 p0) n s = some o) (hC : Sum.elim (fun x : mM => ∀ (w1 : Value) (hw1 : mNotL w1 = true) (w2 : Value) (hw2 : mNotL w2 = true), mGo mG (219, List.drop 14 mC219, [.ref p0, w1, w2], [], x) r) (fun y : (Int32 × mM) => r = (some (.int y.1), y.2)) o) : ∀ (w2 : Value) (hw2 : mNotL w2 = true), mGo mG (219, List.drop 4 mC219, [.ref p0, .int s.1, w2], [], s.2) r :=
  mLoop_go (Hd := (fun s' : Int32 × mM => ∀ (w2 : Value) (hw2 : mNotL w2 = true), mGo mG (219, List.drop 4 mC219, [.ref p0, .int s'.1, w2], [], s'.2) r)) (fun s o hb hC => t219L4 p0 s o hb hC) n s o hr hC
def s219L16 (p0 : Nat) (s : Int32 × mM) : Option ((Int32 × mM) ⊕ ((mM) ⊕ (Int32 × mM))) :=
  if 16 ≤ s.1 then (some (.inr (.inl s.2))) else (if (mS s.2 p0).1 = 9 then if (mS s.2 (mP s.2 p0 15)).1 = 10 ∧ mInb s.1 (mS s.2 (mP s.2 p0 15)).2 then (some (mUI s.2 (mP s.2 p0 15) (Int32.toNatClampNeg s.1) 0)).bind fun μ14 => some (.inl (s.1 + 1, μ14)) else none else none)
set_option maxRecDepth 20000 in
theorem t219L16 (p0 : Nat) {r : Option Value × mM} (s : Int32 × mM) (o : ((Int32 × mM) ⊕ ((mM) ⊕ (Int32 × mM)))) (hr : s219L16 p0 s = some o) (hC : Sum.elim (fun s' : Int32 × mM => ∀ (w2 : Value) (hw2 : mNotL w2 = true), mGo mG (219, List.drop 16 mC219, [.ref p0, .int s'.1, w2], [], s'.2) r) (Sum.elim (fun x : mM => ∀ (w1 : Value) (hw1 : mNotL w1 = true) (w2 : Value) (hw2 : mNotL w2 = true), mGo mG (219, List.drop 26 mC219, [.ref p0, w1, w2], [], x) r) (fun y : (Int32 × mM) => r = (some (.int y.1), y.2))) o) : ∀ (w2 : Value) (hw2 : mNotL w2 = true), mGo mG (219, List.drop 16 mC219, [.ref p0, .int s.1, w2], [], s.2) r := by
  intro w2 hw2
  unfold s219L16 at hr
  refine mGo.steps 2 (c' := (219, List.drop 18 mC219, [.ref p0, .int s.1, w2], [.int 16, .int s.1], s.2)) rfl ?_
  rcases mIte hr with ⟨h15, hr⟩ | ⟨h15, hr⟩
  · refine gBrT (p := 16 ≤ s.1) (y := 219) (is := List.drop 19 mC219) (L := [.ref p0, .int s.1, w2]) (st := []) (μ := s.2) (t := 46) rfl h15 ?_
    obtain rfl := Option.some.inj hr
    exact hC (.int s.1) rfl w2 hw2
  · refine gBrF (p := 16 ≤ s.1) (y := 219) (is := List.drop 19 mC219) (L := [.ref p0, .int s.1, w2]) (st := []) (μ := s.2) (t := 46) rfl h15 ?_
    refine mGo.steps 1 (c' := (219, List.drop 20 mC219, [.ref p0, .int s.1, w2], [.ref p0], s.2)) rfl ?_
    obtain ⟨h12, hr⟩ := mIf hr
    refine gGet (is := List.drop 21 mC219) (v := .ref (mP s.2 p0 15)) h12 rfl ?_
    refine mGo.steps 2 (c' := (219, List.drop 23 mC219, [.ref p0, .int s.1, w2], [.int 0, .int s.1, .ref (mP s.2 p0 15)], s.2)) rfl ?_
    obtain ⟨h13, hr⟩ := mIf hr
    replace hr := mBs hr
    refine gIast (is := List.drop 24 mC219) h13 ?_
    let μ14 : mM := mUI s.2 (mP s.2 p0 15) (Int32.toNatClampNeg s.1) 0
    refine mGo.steps 2 (c' := (219, List.drop 16 mC219, [.ref p0, .int (s.1 + 1), w2], [], μ14)) rfl ?_
    obtain rfl := Option.some.inj hr
    exact hC w2 hw2
theorem t219L16l (p0 : Nat) {r : Option Value × mM} (n : Nat) (s : Int32 × mM) (o : (mM) ⊕ (Int32 × mM)) (hr : mLoop (s219L16 p0) n s = some o) (hC : Sum.elim (fun x : mM => ∀ (w1 : Value) (hw1 : mNotL w1 = true) (w2 : Value) (hw2 : mNotL w2 = true), mGo mG (219, List.drop 26 mC219, [.ref p0, w1, w2], [], x) r) (fun y : (Int32 × mM) => r = (some (.int y.1), y.2)) o) : ∀ (w2 : Value) (hw2 : mNotL w2 = true), mGo mG (219, List.drop 16 mC219, [.ref p0, .int s.1, w2], [], s.2) r :=
  mLoop_go (Hd := (fun s' : Int32 × mM => ∀ (w2 : Value) (hw2 : mNotL w2 = true), mGo mG (219, List.drop 16 mC219, [.ref p0, .int s'.1, w2], [], s'.2) r)) (fun s o hb hC => t219L16 p0 s o hb hC) n s o hr hC
def s219L28L33_52 (p0 : Nat) (p1 : Int32) (μ : mM) (v2 : Int32) : Option ((Int32 × mM) ⊕ ((mM) ⊕ (Int32 × mM))) :=
  some (.inl (v2 + 1, μ))
set_option maxRecDepth 20000 in
theorem t219L28L33_52 (p0 : Nat) (p1 : Int32) (μ : mM) (v2 : Int32) {o : ((Int32 × mM) ⊕ ((mM) ⊕ (Int32 × mM)))} {r : Option Value × mM} (hr : s219L28L33_52 p0 p1 μ v2 = some o) (hC : Sum.elim (fun s' : Int32 × mM => mGo mG (219, List.drop 33 mC219, [.ref p0, .int p1, .int s'.1], [], s'.2) r) (Sum.elim (fun x : mM => ∀ (w2 : Value) (hw2 : mNotL w2 = true), mGo mG (219, List.drop 54 mC219, [.ref p0, .int p1, w2], [], x) r) (fun y : (Int32 × mM) => r = (some (.int y.1), y.2))) o) : mGo mG (219, List.drop 52 mC219, [.ref p0, .int p1, .int v2], [], μ) r := by
  unfold s219L28L33_52 at hr
  refine mGo.steps 2 (c' := (219, List.drop 33 mC219, [.ref p0, .int p1, .int (v2 + 1)], [], μ)) rfl ?_
  obtain rfl := Option.some.inj hr
  exact hC
def s219L28L33 (p0 : Nat) (p1 : Int32) (s : Int32 × mM) : Option ((Int32 × mM) ⊕ ((mM) ⊕ (Int32 × mM))) :=
  if 2 ≤ s.1 then (some (.inr (.inl s.2))) else (if (mS s.2 p0).1 = 9 then (s148 s.2 p0 p1 0).bind fun q21 => if ¬ q21 = 1 then (s219L28L33_52 p0 p1 s.2 s.1) else ((s148 s.2 p0 p1 6).bind fun q23 => if 2 ≤ q23 then (s219L28L33_52 p0 p1 s.2 s.1) else ((s215 s.2 p0 p1 s.1).bind fun q25 => s219L28L33_52 p0 p1 q25 s.1)) else none)
set_option maxRecDepth 20000 in
theorem t219L28L33 (p0 : Nat) (p1 : Int32) {r : Option Value × mM} (s : Int32 × mM) (o : ((Int32 × mM) ⊕ ((mM) ⊕ (Int32 × mM)))) (hr : s219L28L33 p0 p1 s = some o) (hC : Sum.elim (fun s' : Int32 × mM => mGo mG (219, List.drop 33 mC219, [.ref p0, .int p1, .int s'.1], [], s'.2) r) (Sum.elim (fun x : mM => ∀ (w2 : Value) (hw2 : mNotL w2 = true), mGo mG (219, List.drop 54 mC219, [.ref p0, .int p1, w2], [], x) r) (fun y : (Int32 × mM) => r = (some (.int y.1), y.2))) o) : mGo mG (219, List.drop 33 mC219, [.ref p0, .int p1, .int s.1], [], s.2) r := by
  unfold s219L28L33 at hr
  refine mGo.steps 2 (c' := (219, List.drop 35 mC219, [.ref p0, .int p1, .int s.1], [.int 2, .int s.1], s.2)) rfl ?_
  rcases mIte hr with ⟨h29, hr⟩ | ⟨h29, hr⟩
  · refine gBrT (p := 2 ≤ s.1) (y := 219) (is := List.drop 36 mC219) (L := [.ref p0, .int p1, .int s.1]) (st := []) (μ := s.2) (t := 94) rfl h29 ?_
    obtain rfl := Option.some.inj hr
    exact hC (.int s.1) rfl
  · refine gBrF (p := 2 ≤ s.1) (y := 219) (is := List.drop 36 mC219) (L := [.ref p0, .int p1, .int s.1]) (st := []) (μ := s.2) (t := 94) rfl h29 ?_
    refine mGo.steps 3 (c' := (219, List.drop 39 mC219, [.ref p0, .int p1, .int s.1], [.int 0, .int p1, .ref p0], s.2)) rfl ?_
    obtain ⟨h20, hr⟩ := mIf hr
    obtain ⟨q21, h22, hr⟩ := mBi hr
    refine gCall (z := 148) (n := 2) (f := 0) (kind := 1) (a := p0) (As := [.int p1, .int 0]) (y := 219) (is := List.drop 40 mC219) (L := [.ref p0, .int p1, .int s.1]) (rest := []) (μ := s.2) rfl (by decide) (by decide) ⟨rfl, rfl⟩ rfl h20 (Nat.le_of_ble_eq_true rfl) (Nat.le_of_ble_eq_true rfl) (t148 h22) ?_
    refine mGo.steps 1 (c' := (219, List.drop 41 mC219, [.ref p0, .int p1, .int s.1], [.int 1, .int q21], s.2)) rfl ?_
    rcases mIte hr with ⟨h28, hr⟩ | ⟨h28, hr⟩
    · refine gBrT (p := ¬ q21 = 1) (y := 219) (is := List.drop 42 mC219) (L := [.ref p0, .int p1, .int s.1]) (st := []) (μ := s.2) (t := 88) rfl h28 ?_
      exact t219L28L33_52 p0 p1 s.2 s.1 hr hC
    · refine gBrF (p := ¬ q21 = 1) (y := 219) (is := List.drop 42 mC219) (L := [.ref p0, .int p1, .int s.1]) (st := []) (μ := s.2) (t := 88) rfl h28 ?_
      refine mGo.steps 3 (c' := (219, List.drop 45 mC219, [.ref p0, .int p1, .int s.1], [.int 6, .int p1, .ref p0], s.2)) rfl ?_
      obtain ⟨q23, h24, hr⟩ := mBi hr
      refine gCall (z := 148) (n := 2) (f := 0) (kind := 1) (a := p0) (As := [.int p1, .int 6]) (y := 219) (is := List.drop 46 mC219) (L := [.ref p0, .int p1, .int s.1]) (rest := []) (μ := s.2) rfl (by decide) (by decide) ⟨rfl, rfl⟩ rfl h20 (Nat.le_of_ble_eq_true rfl) (Nat.le_of_ble_eq_true rfl) (t148 h24) ?_
      refine mGo.steps 1 (c' := (219, List.drop 47 mC219, [.ref p0, .int p1, .int s.1], [.int 2, .int q23], s.2)) rfl ?_
      rcases mIte hr with ⟨h27, hr⟩ | ⟨h27, hr⟩
      · refine gBrT (p := 2 ≤ q23) (y := 219) (is := List.drop 48 mC219) (L := [.ref p0, .int p1, .int s.1]) (st := []) (μ := s.2) (t := 88) rfl h27 ?_
        exact t219L28L33_52 p0 p1 s.2 s.1 hr hC
      · refine gBrF (p := 2 ≤ q23) (y := 219) (is := List.drop 48 mC219) (L := [.ref p0, .int p1, .int s.1]) (st := []) (μ := s.2) (t := 88) rfl h27 ?_
        refine mGo.steps 3 (c' := (219, List.drop 51 mC219, [.ref p0, .int p1, .int s.1], [.int s.1, .int p1, .ref p0], s.2)) rfl ?_
        obtain ⟨q25, h26, hr⟩ := mBi hr
        refine gCall (z := 215) (n := 2) (f := 0) (kind := 1) (a := p0) (As := [.int p1, .int s.1]) (y := 219) (is := List.drop 52 mC219) (L := [.ref p0, .int p1, .int s.1]) (rest := []) (μ := s.2) rfl (by decide) (by decide) ⟨rfl, rfl⟩ rfl h20 (Nat.le_of_ble_eq_true rfl) (Nat.le_of_ble_eq_true rfl) (t215 h26) ?_
        exact t219L28L33_52 p0 p1 q25 s.1 hr hC
theorem t219L28L33l (p0 : Nat) (p1 : Int32) {r : Option Value × mM} (n : Nat) (s : Int32 × mM) (o : (mM) ⊕ (Int32 × mM)) (hr : mLoop (s219L28L33 p0 p1) n s = some o) (hC : Sum.elim (fun x : mM => ∀ (w2 : Value) (hw2 : mNotL w2 = true), mGo mG (219, List.drop 54 mC219, [.ref p0, .int p1, w2], [], x) r) (fun y : (Int32 × mM) => r = (some (.int y.1), y.2)) o) : mGo mG (219, List.drop 33 mC219, [.ref p0, .int p1, .int s.1], [], s.2) r :=
  mLoop_go (Hd := (fun s' : Int32 × mM => mGo mG (219, List.drop 33 mC219, [.ref p0, .int p1, .int s'.1], [], s'.2) r)) (fun s o hb hC => t219L28L33 p0 p1 s o hb hC) n s o hr hC
def s219L28 (p0 : Nat) (s : Int32 × mM) : Option ((Int32 × mM) ⊕ ((mM) ⊕ (Int32 × mM))) :=
  if 8 ≤ s.1 then (some (.inr (.inl s.2))) else ((mLoop (s219L28L33 p0 s.1) 1000 (0, s.2)).bind fun o30 => Sum.elim (fun x31 => some (.inl (s.1 + 1, x31))) (fun y32 => some (.inr (.inr y32))) o30)
set_option maxRecDepth 20000 in
theorem t219L28 (p0 : Nat) {r : Option Value × mM} (s : Int32 × mM) (o : ((Int32 × mM) ⊕ ((mM) ⊕ (Int32 × mM)))) (hr : s219L28 p0 s = some o) (hC : Sum.elim (fun s' : Int32 × mM => ∀ (w2 : Value) (hw2 : mNotL w2 = true), mGo mG (219, List.drop 28 mC219, [.ref p0, .int s'.1, w2], [], s'.2) r) (Sum.elim (fun x : mM => ∀ (w1 : Value) (hw1 : mNotL w1 = true) (w2 : Value) (hw2 : mNotL w2 = true), mGo mG (219, List.drop 56 mC219, [.ref p0, w1, w2], [], x) r) (fun y : (Int32 × mM) => r = (some (.int y.1), y.2))) o) : ∀ (w2 : Value) (hw2 : mNotL w2 = true), mGo mG (219, List.drop 28 mC219, [.ref p0, .int s.1, w2], [], s.2) r := by
  intro w2 hw2
  unfold s219L28 at hr
  refine mGo.steps 2 (c' := (219, List.drop 30 mC219, [.ref p0, .int s.1, w2], [.int 8, .int s.1], s.2)) rfl ?_
  rcases mIte hr with ⟨h34, hr⟩ | ⟨h34, hr⟩
  · refine gBrT (p := 8 ≤ s.1) (y := 219) (is := List.drop 31 mC219) (L := [.ref p0, .int s.1, w2]) (st := []) (μ := s.2) (t := 100) rfl h34 ?_
    obtain rfl := Option.some.inj hr
    exact hC (.int s.1) rfl w2 hw2
  · refine gBrF (p := 8 ≤ s.1) (y := 219) (is := List.drop 31 mC219) (L := [.ref p0, .int s.1, w2]) (st := []) (μ := s.2) (t := 100) rfl h34 ?_
    refine mGo.steps 2 (c' := (219, List.drop 33 mC219, [.ref p0, .int s.1, .int 0], [], s.2)) rfl ?_
    obtain ⟨o30, h33, hr⟩ := mBi hr
    refine t219L28L33l p0 s.1 1000 (0, s.2) o30 h33 ?_ 
    cases o30 with
    | inl x31 =>
      show ∀ (w2 : Value) (hw2 : mNotL w2 = true), mGo mG (219, List.drop 54 mC219, [.ref p0, .int s.1, w2], [], x31) r
      intro w2 hw2
      replace hr : (_) = some _ := hr
      refine mGo.steps 2 (c' := (219, List.drop 28 mC219, [.ref p0, .int (s.1 + 1), w2], [], x31)) rfl ?_
      obtain rfl := Option.some.inj hr
      exact hC w2 hw2
    | inr y32 =>
      obtain rfl := Option.some.inj hr
      exact hC
theorem t219L28l (p0 : Nat) {r : Option Value × mM} (n : Nat) (s : Int32 × mM) (o : (mM) ⊕ (Int32 × mM)) (hr : mLoop (s219L28 p0) n s = some o) (hC : Sum.elim (fun x : mM => ∀ (w1 : Value) (hw1 : mNotL w1 = true) (w2 : Value) (hw2 : mNotL w2 = true), mGo mG (219, List.drop 56 mC219, [.ref p0, w1, w2], [], x) r) (fun y : (Int32 × mM) => r = (some (.int y.1), y.2)) o) : ∀ (w2 : Value) (hw2 : mNotL w2 = true), mGo mG (219, List.drop 28 mC219, [.ref p0, .int s.1, w2], [], s.2) r :=
  mLoop_go (Hd := (fun s' : Int32 × mM => ∀ (w2 : Value) (hw2 : mNotL w2 = true), mGo mG (219, List.drop 28 mC219, [.ref p0, .int s'.1, w2], [], s'.2) r)) (fun s o hb hC => t219L28 p0 s o hb hC) n s o hr hC
def s219L61_73 (p0 : Nat) (p1 : Int32) (μ : mM) (v2 : Int32) : Option ((Int32 × mM) ⊕ ((mM) ⊕ (Int32 × mM))) :=
  some (.inl (v2 + 1, μ))
set_option maxRecDepth 20000 in
theorem t219L61_73 (p0 : Nat) (p1 : Int32) (μ : mM) (v2 : Int32) {o : ((Int32 × mM) ⊕ ((mM) ⊕ (Int32 × mM)))} {r : Option Value × mM} (hr : s219L61_73 p0 p1 μ v2 = some o) (hC : Sum.elim (fun s' : Int32 × mM => mGo mG (219, List.drop 61 mC219, [.ref p0, .int p1, .int s'.1], [], s'.2) r) (Sum.elim (fun x : mM => ∀ (w2 : Value) (hw2 : mNotL w2 = true), mGo mG (219, List.drop 75 mC219, [.ref p0, .int p1, w2], [], x) r) (fun y : (Int32 × mM) => r = (some (.int y.1), y.2))) o) : mGo mG (219, List.drop 73 mC219, [.ref p0, .int p1, .int v2], [], μ) r := by
  unfold s219L61_73 at hr
  refine mGo.steps 2 (c' := (219, List.drop 61 mC219, [.ref p0, .int p1, .int (v2 + 1)], [], μ)) rfl ?_
  obtain rfl := Option.some.inj hr
  exact hC
def s219L61 (p0 : Nat) (p1 : Int32) (s : Int32 × mM) : Option ((Int32 × mM) ⊕ ((mM) ⊕ (Int32 × mM))) :=
  if 8 ≤ s.1 then (some (.inr (.inl s.2))) else (if (mS s.2 p0).1 = 9 then (s148 s.2 p0 s.1 0).bind fun q43 => if ¬ q43 = 1 then (s219L61_73 p0 p1 s.2 s.1) else ((s218 s.2 p0 s.1).bind fun q45 => s219L61_73 p0 p1 q45 s.1) else none)
set_option maxRecDepth 20000 in
theorem t219L61 (p0 : Nat) (p1 : Int32) {r : Option Value × mM} (s : Int32 × mM) (o : ((Int32 × mM) ⊕ ((mM) ⊕ (Int32 × mM)))) (hr : s219L61 p0 p1 s = some o) (hC : Sum.elim (fun s' : Int32 × mM => mGo mG (219, List.drop 61 mC219, [.ref p0, .int p1, .int s'.1], [], s'.2) r) (Sum.elim (fun x : mM => ∀ (w2 : Value) (hw2 : mNotL w2 = true), mGo mG (219, List.drop 75 mC219, [.ref p0, .int p1, w2], [], x) r) (fun y : (Int32 × mM) => r = (some (.int y.1), y.2))) o) : mGo mG (219, List.drop 61 mC219, [.ref p0, .int p1, .int s.1], [], s.2) r := by
  unfold s219L61 at hr
  refine mGo.steps 2 (c' := (219, List.drop 63 mC219, [.ref p0, .int p1, .int s.1], [.int 8, .int s.1], s.2)) rfl ?_
  rcases mIte hr with ⟨h48, hr⟩ | ⟨h48, hr⟩
  · refine gBrT (p := 8 ≤ s.1) (y := 219) (is := List.drop 64 mC219) (L := [.ref p0, .int p1, .int s.1]) (st := []) (μ := s.2) (t := 134) rfl h48 ?_
    obtain rfl := Option.some.inj hr
    exact hC (.int s.1) rfl
  · refine gBrF (p := 8 ≤ s.1) (y := 219) (is := List.drop 64 mC219) (L := [.ref p0, .int p1, .int s.1]) (st := []) (μ := s.2) (t := 134) rfl h48 ?_
    refine mGo.steps 3 (c' := (219, List.drop 67 mC219, [.ref p0, .int p1, .int s.1], [.int 0, .int s.1, .ref p0], s.2)) rfl ?_
    obtain ⟨h42, hr⟩ := mIf hr
    obtain ⟨q43, h44, hr⟩ := mBi hr
    refine gCall (z := 148) (n := 2) (f := 0) (kind := 1) (a := p0) (As := [.int s.1, .int 0]) (y := 219) (is := List.drop 68 mC219) (L := [.ref p0, .int p1, .int s.1]) (rest := []) (μ := s.2) rfl (by decide) (by decide) ⟨rfl, rfl⟩ rfl h42 (Nat.le_of_ble_eq_true rfl) (Nat.le_of_ble_eq_true rfl) (t148 h44) ?_
    refine mGo.steps 1 (c' := (219, List.drop 69 mC219, [.ref p0, .int p1, .int s.1], [.int 1, .int q43], s.2)) rfl ?_
    rcases mIte hr with ⟨h47, hr⟩ | ⟨h47, hr⟩
    · refine gBrT (p := ¬ q43 = 1) (y := 219) (is := List.drop 70 mC219) (L := [.ref p0, .int p1, .int s.1]) (st := []) (μ := s.2) (t := 128) rfl h47 ?_
      exact t219L61_73 p0 p1 s.2 s.1 hr hC
    · refine gBrF (p := ¬ q43 = 1) (y := 219) (is := List.drop 70 mC219) (L := [.ref p0, .int p1, .int s.1]) (st := []) (μ := s.2) (t := 128) rfl h47 ?_
      refine mGo.steps 2 (c' := (219, List.drop 72 mC219, [.ref p0, .int p1, .int s.1], [.int s.1, .ref p0], s.2)) rfl ?_
      obtain ⟨q45, h46, hr⟩ := mBi hr
      refine gCall (z := 218) (n := 1) (f := 0) (kind := 1) (a := p0) (As := [.int s.1]) (y := 219) (is := List.drop 73 mC219) (L := [.ref p0, .int p1, .int s.1]) (rest := []) (μ := s.2) rfl (by decide) (by decide) ⟨rfl, rfl⟩ rfl h42 (Nat.le_of_ble_eq_true rfl) (Nat.le_of_ble_eq_true rfl) (t218 h46) ?_
      exact t219L61_73 p0 p1 q45 s.1 hr hC
theorem t219L61l (p0 : Nat) (p1 : Int32) {r : Option Value × mM} (n : Nat) (s : Int32 × mM) (o : (mM) ⊕ (Int32 × mM)) (hr : mLoop (s219L61 p0 p1) n s = some o) (hC : Sum.elim (fun x : mM => ∀ (w2 : Value) (hw2 : mNotL w2 = true), mGo mG (219, List.drop 75 mC219, [.ref p0, .int p1, w2], [], x) r) (fun y : (Int32 × mM) => r = (some (.int y.1), y.2)) o) : mGo mG (219, List.drop 61 mC219, [.ref p0, .int p1, .int s.1], [], s.2) r :=
  mLoop_go (Hd := (fun s' : Int32 × mM => mGo mG (219, List.drop 61 mC219, [.ref p0, .int p1, .int s'.1], [], s'.2) r)) (fun s o hb hC => t219L61 p0 p1 s o hb hC) n s o hr hC
def s219 (μ : mM) (a0 : Nat) : Option (Int32 × mM) :=
  if (mS μ a0).1 = 9 then (s211 μ a0).bind fun q2 => (mLoop (s219L4 a0) 1000 (0, q2)).bind fun o8 => Sum.elim (fun x9 => (mLoop (s219L16 a0) 1000 (0, x9)).bind fun o16 => Sum.elim (fun x17 => (mLoop (s219L28 a0) 1000 (1, x17)).bind fun o35 => Sum.elim (fun x36 => if (mS x36 a0).1 = 9 then (s216 x36 a0).bind fun q40 => (mLoop (s219L61 a0 q40.1) 1000 (1, q40.2)).bind fun o49 => Sum.elim (fun x50 => if (mS x50 a0).1 = 9 then if (mS x50 (mP x50 a0 0)).1 = 10 ∧ mInb 428 (mS x50 (mP x50 a0 0)).2 then (some (mUI x50 (mP x50 a0 0) (Int32.toNatClampNeg 428) ((mI x50 (mP x50 a0 0) (Int32.toNatClampNeg 428)) + 1))).bind fun μ55 => if (mS μ55 (mP μ55 a0 0)).1 = 10 ∧ mInb 429 (mS μ55 (mP μ55 a0 0)).2 then (some (mUI μ55 (mP μ55 a0 0) (Int32.toNatClampNeg 429) ((mI μ55 (mP μ55 a0 0) (Int32.toNatClampNeg 429)) + q40.1))).bind fun μ57 => some (q40.1, μ57) else none else none else none) (fun y51 => some y51) o49 else none) (fun y37 => some y37) o35) (fun y18 => some y18) o16) (fun y10 => some y10) o8 else none
set_option maxRecDepth 20000 in
theorem t219 {μ : mM} {a0 : Nat} {o : (Int32 × mM)} (hr : s219 μ a0 = some o) : mEv mG 219 [.ref a0] μ (some (.int o.1)) (o.2) := by
  obtain ⟨r, hC⟩ : ∃ r : Option Value × mM, r = (some (.int o.1), o.2) := ⟨_, rfl⟩
  show mGo mG (219, List.drop 0 mC219, [.ref a0, .retAddr 0, .retAddr 0], [], μ) (some (.int o.1), o.2)
  rw [← hC]
  unfold s219 at hr
  refine mGo.steps 1 (c' := (219, List.drop 1 mC219, [.ref a0, .retAddr 0, .retAddr 0], [.ref a0], μ)) rfl ?_
  obtain ⟨h1, hr⟩ := mIf hr
  obtain ⟨q2, h3, hr⟩ := mBi hr
  refine gCall (z := 211) (n := 0) (f := 0) (kind := 1) (a := a0) (As := []) (y := 219) (is := List.drop 2 mC219) (L := [.ref a0, .retAddr 0, .retAddr 0]) (rest := []) (μ := μ) rfl (by decide) (by decide) ⟨rfl, rfl⟩ rfl h1 (Nat.le_of_ble_eq_true rfl) (Nat.le_of_ble_eq_true rfl) (t211 h3) ?_
  refine mGo.steps 2 (c' := (219, List.drop 4 mC219, [.ref a0, .int 0, .retAddr 0], [], q2)) rfl ?_
  obtain ⟨o8, h11, hr⟩ := mBi hr
  refine t219L4l a0 1000 (0, q2) o8 h11 ?_ (.retAddr 0) rfl
  cases o8 with
  | inl x9 =>
    show ∀ (w1 : Value) (hw1 : mNotL w1 = true) (w2 : Value) (hw2 : mNotL w2 = true), mGo mG (219, List.drop 14 mC219, [.ref a0, w1, w2], [], x9) r
    intro w1 hw1 w2 hw2
    replace hr : (_) = some _ := hr
    refine mGo.steps 2 (c' := (219, List.drop 16 mC219, [.ref a0, .int 0, w2], [], x9)) rfl ?_
    obtain ⟨o16, h19, hr⟩ := mBi hr
    refine t219L16l a0 1000 (0, x9) o16 h19 ?_ w2 hw2
    cases o16 with
    | inl x17 =>
      show ∀ (w1 : Value) (hw1 : mNotL w1 = true) (w2 : Value) (hw2 : mNotL w2 = true), mGo mG (219, List.drop 26 mC219, [.ref a0, w1, w2], [], x17) r
      intro w1 hw1 w2 hw2
      replace hr : (_) = some _ := hr
      refine mGo.steps 2 (c' := (219, List.drop 28 mC219, [.ref a0, .int 1, w2], [], x17)) rfl ?_
      obtain ⟨o35, h38, hr⟩ := mBi hr
      refine t219L28l a0 1000 (1, x17) o35 h38 ?_ w2 hw2
      cases o35 with
      | inl x36 =>
        show ∀ (w1 : Value) (hw1 : mNotL w1 = true) (w2 : Value) (hw2 : mNotL w2 = true), mGo mG (219, List.drop 56 mC219, [.ref a0, w1, w2], [], x36) r
        intro w1 hw1 w2 hw2
        replace hr : (_) = some _ := hr
        refine mGo.steps 1 (c' := (219, List.drop 57 mC219, [.ref a0, w1, w2], [.ref a0], x36)) rfl ?_
        obtain ⟨h39, hr⟩ := mIf hr
        obtain ⟨q40, h41, hr⟩ := mBi hr
        refine gCall (z := 216) (n := 0) (f := 0) (kind := 1) (a := a0) (As := []) (y := 219) (is := List.drop 58 mC219) (L := [.ref a0, w1, w2]) (rest := []) (μ := x36) rfl (by decide) (by decide) ⟨rfl, rfl⟩ rfl h39 (Nat.le_of_ble_eq_true rfl) (Nat.le_of_ble_eq_true rfl) (t216 h41) ?_
        refine mGo.steps 3 (c' := (219, List.drop 61 mC219, [.ref a0, .int q40.1, .int 1], [], q40.2)) rfl ?_
        obtain ⟨o49, h52, hr⟩ := mBi hr
        refine t219L61l a0 q40.1 1000 (1, q40.2) o49 h52 ?_ 
        cases o49 with
        | inl x50 =>
          show ∀ (w2 : Value) (hw2 : mNotL w2 = true), mGo mG (219, List.drop 75 mC219, [.ref a0, .int q40.1, w2], [], x50) r
          intro w2 hw2
          replace hr : (_) = some _ := hr
          refine mGo.steps 1 (c' := (219, List.drop 76 mC219, [.ref a0, .int q40.1, w2], [.ref a0], x50)) rfl ?_
          obtain ⟨h53, hr⟩ := mIf hr
          refine gGet (is := List.drop 77 mC219) (v := .ref (mP x50 a0 0)) h53 rfl ?_
          refine mGo.steps 2 (c' := (219, List.drop 79 mC219, [.ref a0, .int q40.1, w2], [.int 428, .ref (mP x50 a0 0), .int 428, .ref (mP x50 a0 0)], x50)) rfl ?_
          obtain ⟨h54, hr⟩ := mIf hr
          refine gIald (is := List.drop 80 mC219) h54 ?_
          refine mGo.steps 2 (c' := (219, List.drop 82 mC219, [.ref a0, .int q40.1, w2], [.int ((mI x50 (mP x50 a0 0) (Int32.toNatClampNeg 428)) + 1), .int 428, .ref (mP x50 a0 0)], x50)) rfl ?_
          replace hr := mBs hr
          refine gIast (is := List.drop 83 mC219) h54 ?_
          let μ55 : mM := mUI x50 (mP x50 a0 0) (Int32.toNatClampNeg 428) ((mI x50 (mP x50 a0 0) (Int32.toNatClampNeg 428)) + 1)
          refine mGo.steps 1 (c' := (219, List.drop 84 mC219, [.ref a0, .int q40.1, w2], [.ref a0], μ55)) rfl ?_
          refine gGet (is := List.drop 85 mC219) (v := .ref (mP μ55 a0 0)) h53 rfl ?_
          refine mGo.steps 2 (c' := (219, List.drop 87 mC219, [.ref a0, .int q40.1, w2], [.int 429, .ref (mP μ55 a0 0), .int 429, .ref (mP μ55 a0 0)], μ55)) rfl ?_
          obtain ⟨h56, hr⟩ := mIf hr
          refine gIald (is := List.drop 88 mC219) h56 ?_
          refine mGo.steps 2 (c' := (219, List.drop 90 mC219, [.ref a0, .int q40.1, w2], [.int ((mI μ55 (mP μ55 a0 0) (Int32.toNatClampNeg 429)) + q40.1), .int 429, .ref (mP μ55 a0 0)], μ55)) rfl ?_
          replace hr := mBs hr
          refine gIast (is := List.drop 91 mC219) h56 ?_
          let μ57 : mM := mUI μ55 (mP μ55 a0 0) (Int32.toNatClampNeg 429) ((mI μ55 (mP μ55 a0 0) (Int32.toNatClampNeg 429)) + q40.1)
          refine mGo.steps 1 (c' := (219, List.drop 92 mC219, [.ref a0, .int q40.1, w2], [.int q40.1], μ57)) rfl ?_
          obtain rfl := Option.some.inj hr
          rw [show r = _ from hC]
          exact gIret rfl
        | inr y51 =>
          obtain rfl := Option.some.inj hr
          exact hC
      | inr y37 =>
        obtain rfl := Option.some.inj hr
        exact hC
    | inr y18 =>
      obtain rfl := Option.some.inj hr
      exact hC
  | inr y10 =>
    obtain rfl := Option.some.inj hr
    exact hC

/-! 220: TunnelFabricModel.tick(I)I -/
def s220L11 (p0 : Nat) (p1 : Int32) (s : Int32 × Int32 × mM) : Option ((Int32 × Int32 × mM) ⊕ ((Int32 × mM) ⊕ (Int32 × mM))) :=
  if p1 ≤ s.2.1 then (some (.inr (.inl (s.1, s.2.2)))) else (if (mS s.2.2 p0).1 = 9 then (s219 s.2.2 p0).bind fun q4 => some (.inl (s.1 + q4.1, s.2.1 + 1, q4.2)) else none)
set_option maxRecDepth 20000 in
theorem t220L11 (p0 : Nat) (p1 : Int32) {r : Option Value × mM} (s : Int32 × Int32 × mM) (o : ((Int32 × Int32 × mM) ⊕ ((Int32 × mM) ⊕ (Int32 × mM)))) (hr : s220L11 p0 p1 s = some o) (hC : Sum.elim (fun s' : Int32 × Int32 × mM => mGo mG (220, List.drop 11 mC220, [.ref p0, .int p1, .int s'.1, .int s'.2.1], [], s'.2.2) r) (Sum.elim (fun x : Int32 × mM => ∀ (w0 : Value) (hw0 : mNotL w0 = true) (w1 : Value) (hw1 : mNotL w1 = true) (w3 : Value) (hw3 : mNotL w3 = true), mGo mG (220, List.drop 21 mC220, [w0, w1, .int x.1, w3], [], x.2) r) (fun y : (Int32 × mM) => r = (some (.int y.1), y.2))) o) : mGo mG (220, List.drop 11 mC220, [.ref p0, .int p1, .int s.1, .int s.2.1], [], s.2.2) r := by
  unfold s220L11 at hr
  refine mGo.steps 2 (c' := (220, List.drop 13 mC220, [.ref p0, .int p1, .int s.1, .int s.2.1], [.int p1, .int s.2.1], s.2.2)) rfl ?_
  rcases mIte hr with ⟨h6, hr⟩ | ⟨h6, hr⟩
  · refine gBrT (p := p1 ≤ s.2.1) (y := 220) (is := List.drop 14 mC220) (L := [.ref p0, .int p1, .int s.1, .int s.2.1]) (st := []) (μ := s.2.2) (t := 34) rfl h6 ?_
    obtain rfl := Option.some.inj hr
    exact hC (.ref p0) rfl (.int p1) rfl (.int s.2.1) rfl
  · refine gBrF (p := p1 ≤ s.2.1) (y := 220) (is := List.drop 14 mC220) (L := [.ref p0, .int p1, .int s.1, .int s.2.1]) (st := []) (μ := s.2.2) (t := 34) rfl h6 ?_
    refine mGo.steps 2 (c' := (220, List.drop 16 mC220, [.ref p0, .int p1, .int s.1, .int s.2.1], [.ref p0, .int s.1], s.2.2)) rfl ?_
    obtain ⟨h3, hr⟩ := mIf hr
    obtain ⟨q4, h5, hr⟩ := mBi hr
    refine gCall (z := 219) (n := 0) (f := 0) (kind := 1) (a := p0) (As := []) (y := 220) (is := List.drop 17 mC220) (L := [.ref p0, .int p1, .int s.1, .int s.2.1]) (rest := [.int s.1]) (μ := s.2.2) rfl (by decide) (by decide) ⟨rfl, rfl⟩ rfl h3 (Nat.le_of_ble_eq_true rfl) (Nat.le_of_ble_eq_true rfl) (t219 h5) ?_
    refine mGo.steps 4 (c' := (220, List.drop 11 mC220, [.ref p0, .int p1, .int (s.1 + q4.1), .int (s.2.1 + 1)], [], q4.2)) rfl ?_
    obtain rfl := Option.some.inj hr
    exact hC
theorem t220L11l (p0 : Nat) (p1 : Int32) {r : Option Value × mM} (n : Nat) (s : Int32 × Int32 × mM) (o : (Int32 × mM) ⊕ (Int32 × mM)) (hr : mLoop (s220L11 p0 p1) n s = some o) (hC : Sum.elim (fun x : Int32 × mM => ∀ (w0 : Value) (hw0 : mNotL w0 = true) (w1 : Value) (hw1 : mNotL w1 = true) (w3 : Value) (hw3 : mNotL w3 = true), mGo mG (220, List.drop 21 mC220, [w0, w1, .int x.1, w3], [], x.2) r) (fun y : (Int32 × mM) => r = (some (.int y.1), y.2)) o) : mGo mG (220, List.drop 11 mC220, [.ref p0, .int p1, .int s.1, .int s.2.1], [], s.2.2) r :=
  mLoop_go (Hd := (fun s' : Int32 × Int32 × mM => mGo mG (220, List.drop 11 mC220, [.ref p0, .int p1, .int s'.1, .int s'.2.1], [], s'.2.2) r)) (fun s o hb hC => t220L11 p0 p1 s o hb hC) n s o hr hC
def s220 (μ : mM) (a0 : Nat) (a1 : Int32) : Option (Int32 × mM) :=
  (s144 μ a1 1 50).bind fun q1 => if ¬ q1 = 0 then ((mLoop (s220L11 a0 a1) 1000 (0, 0, μ)).bind fun o7 => Sum.elim (fun x8 => some (x8.1, x8.2)) (fun y9 => some y9) o7) else (some ((-1), μ))
set_option maxRecDepth 20000 in
theorem t220 {μ : mM} {a0 : Nat} {a1 : Int32} {o : (Int32 × mM)} (hr : s220 μ a0 a1 = some o) : mEv mG 220 [.ref a0, .int a1] μ (some (.int o.1)) (o.2) := by
  obtain ⟨r, hC⟩ : ∃ r : Option Value × mM, r = (some (.int o.1), o.2) := ⟨_, rfl⟩
  show mGo mG (220, List.drop 0 mC220, [.ref a0, .int a1, .retAddr 0, .retAddr 0], [], μ) (some (.int o.1), o.2)
  rw [← hC]
  unfold s220 at hr
  refine mGo.steps 3 (c' := (220, List.drop 3 mC220, [.ref a0, .int a1, .retAddr 0, .retAddr 0], [.int 50, .int 1, .int a1], μ)) rfl ?_
  obtain ⟨q1, h2, hr⟩ := mBi hr
  refine mGo.call (z := 144) (as := [.int a1, .int 1, .int 50]) (y := 220) (is := List.drop 4 mC220) (L := [.ref a0, .int a1, .retAddr 0, .retAddr 0]) (st := []) (μ := μ) rfl (t144 h2) ?_
  rcases mIte hr with ⟨h11, hr⟩ | ⟨h11, hr⟩
  · refine gBrT (p := ¬ q1 = 0) (y := 220) (is := List.drop 5 mC220) (L := [.ref a0, .int a1, .retAddr 0, .retAddr 0]) (st := []) (μ := μ) (t := 12) rfl h11 ?_
    refine mGo.steps 4 (c' := (220, List.drop 11 mC220, [.ref a0, .int a1, .int 0, .int 0], [], μ)) rfl ?_
    obtain ⟨o7, h10, hr⟩ := mBi hr
    refine t220L11l a0 a1 1000 (0, 0, μ) o7 h10 ?_ 
    cases o7 with
    | inl x8 =>
      show ∀ (w0 : Value) (hw0 : mNotL w0 = true) (w1 : Value) (hw1 : mNotL w1 = true) (w3 : Value) (hw3 : mNotL w3 = true), mGo mG (220, List.drop 21 mC220, [w0, w1, .int x8.1, w3], [], x8.2) r
      intro w0 hw0 w1 hw1 w3 hw3
      replace hr : (_) = some _ := hr
      refine mGo.steps 1 (c' := (220, List.drop 22 mC220, [w0, w1, .int x8.1, w3], [.int x8.1], x8.2)) rfl ?_
      obtain rfl := Option.some.inj hr
      rw [show r = _ from hC]
      exact gIret rfl
    | inr y9 =>
      obtain rfl := Option.some.inj hr
      exact hC
  · refine gBrF (p := ¬ q1 = 0) (y := 220) (is := List.drop 5 mC220) (L := [.ref a0, .int a1, .retAddr 0, .retAddr 0]) (st := []) (μ := μ) (t := 12) rfl h11 ?_
    refine mGo.steps 1 (c' := (220, List.drop 6 mC220, [.ref a0, .int a1, .retAddr 0, .retAddr 0], [.int (-1)], μ)) rfl ?_
    obtain rfl := Option.some.inj hr
    rw [show r = _ from hC]
    exact gIret rfl

/-! 221: TunnelFabricModel.setPatience(I)I -/
def s221 (μ : mM) (a0 : Nat) (a1 : Int32) : Option (Int32 × mM) :=
  (s144 μ a1 1 9).bind fun q1 => if ¬ q1 = 0 then (if (mS μ a0).1 = 9 then if (mS μ (mP μ a0 0)).1 = 10 ∧ mInb 431 (mS μ (mP μ a0 0)).2 then (some (mUI μ (mP μ a0 0) (Int32.toNatClampNeg 431) a1)).bind fun μ5 => some (mI μ (mP μ a0 0) (Int32.toNatClampNeg 431), μ5) else none else none) else (some ((-1), μ))
set_option maxRecDepth 20000 in
theorem t221 {μ : mM} {a0 : Nat} {a1 : Int32} {o : (Int32 × mM)} (hr : s221 μ a0 a1 = some o) : mEv mG 221 [.ref a0, .int a1] μ (some (.int o.1)) (o.2) := by
  obtain ⟨r, hC⟩ : ∃ r : Option Value × mM, r = (some (.int o.1), o.2) := ⟨_, rfl⟩
  show mGo mG (221, List.drop 0 mC221, [.ref a0, .int a1, .retAddr 0], [], μ) (some (.int o.1), o.2)
  rw [← hC]
  unfold s221 at hr
  refine mGo.steps 3 (c' := (221, List.drop 3 mC221, [.ref a0, .int a1, .retAddr 0], [.int 9, .int 1, .int a1], μ)) rfl ?_
  obtain ⟨q1, h2, hr⟩ := mBi hr
  refine mGo.call (z := 144) (as := [.int a1, .int 1, .int 9]) (y := 221) (is := List.drop 4 mC221) (L := [.ref a0, .int a1, .retAddr 0]) (st := []) (μ := μ) rfl (t144 h2) ?_
  rcases mIte hr with ⟨h6, hr⟩ | ⟨h6, hr⟩
  · refine gBrT (p := ¬ q1 = 0) (y := 221) (is := List.drop 5 mC221) (L := [.ref a0, .int a1, .retAddr 0]) (st := []) (μ := μ) (t := 12) rfl h6 ?_
    refine mGo.steps 1 (c' := (221, List.drop 8 mC221, [.ref a0, .int a1, .retAddr 0], [.ref a0], μ)) rfl ?_
    obtain ⟨h3, hr⟩ := mIf hr
    refine gGet (is := List.drop 9 mC221) (v := .ref (mP μ a0 0)) h3 rfl ?_
    refine mGo.steps 1 (c' := (221, List.drop 10 mC221, [.ref a0, .int a1, .retAddr 0], [.int 431, .ref (mP μ a0 0)], μ)) rfl ?_
    obtain ⟨h4, hr⟩ := mIf hr
    refine gIald (is := List.drop 11 mC221) h4 ?_
    refine mGo.steps 2 (c' := (221, List.drop 13 mC221, [.ref a0, .int a1, .int (mI μ (mP μ a0 0) (Int32.toNatClampNeg 431))], [.ref a0], μ)) rfl ?_
    refine gGet (is := List.drop 14 mC221) (v := .ref (mP μ a0 0)) h3 rfl ?_
    refine mGo.steps 2 (c' := (221, List.drop 16 mC221, [.ref a0, .int a1, .int (mI μ (mP μ a0 0) (Int32.toNatClampNeg 431))], [.int a1, .int 431, .ref (mP μ a0 0)], μ)) rfl ?_
    replace hr := mBs hr
    refine gIast (is := List.drop 17 mC221) h4 ?_
    let μ5 : mM := mUI μ (mP μ a0 0) (Int32.toNatClampNeg 431) a1
    refine mGo.steps 1 (c' := (221, List.drop 18 mC221, [.ref a0, .int a1, .int (mI μ (mP μ a0 0) (Int32.toNatClampNeg 431))], [.int (mI μ (mP μ a0 0) (Int32.toNatClampNeg 431))], μ5)) rfl ?_
    obtain rfl := Option.some.inj hr
    rw [show r = _ from hC]
    exact gIret rfl
  · refine gBrF (p := ¬ q1 = 0) (y := 221) (is := List.drop 5 mC221) (L := [.ref a0, .int a1, .retAddr 0]) (st := []) (μ := μ) (t := 12) rfl h6 ?_
    refine mGo.steps 1 (c' := (221, List.drop 6 mC221, [.ref a0, .int a1, .retAddr 0], [.int (-1)], μ)) rfl ?_
    obtain rfl := Option.some.inj hr
    rw [show r = _ from hC]
    exact gIret rfl

/-! 222: TunnelFabricModel.weightOf(I)F -/
def s222_9 (μ : mM) (a0 : Nat) (a1 : Int32) (t0 : UInt32) : Option UInt32 :=
  some t0
set_option maxRecDepth 20000 in
theorem t222_9 (μ : mM) (a0 : Nat) (a1 : Int32) (t0 : UInt32) (w0 : Value) (hw0 : mNotL w0 = true) (w1 : Value) (hw1 : mNotL w1 = true) {o : UInt32} {r : Option Value × mM} (hr : s222_9 μ a0 a1 t0 = some o) (hC : r = (some (.float o), μ)) : mGo mG (222, List.drop 9 mC222, [w0, w1], [.float t0], μ) r := by
  unfold s222_9 at hr
  obtain rfl := Option.some.inj hr
  rw [show r = _ from hC]
  exact gFret rfl
def s222 (μ : mM) (a0 : Nat) (a1 : Int32) : Option UInt32 :=
  if (mS μ a0).1 = 9 then (s159 μ a0 a1 1).bind fun q2 => if ¬ q2 = 1 then (s222_9 μ a0 a1 FP.fconst1) else (s222_9 μ a0 a1 FP.fconst2) else none
set_option maxRecDepth 20000 in
theorem t222 {μ : mM} {a0 : Nat} {a1 : Int32} {o : UInt32} (hr : s222 μ a0 a1 = some o) : mEv mG 222 [.ref a0, .int a1] μ (some (.float o)) (μ) := by
  obtain ⟨r, hC⟩ : ∃ r : Option Value × mM, r = (some (.float o), μ) := ⟨_, rfl⟩
  show mGo mG (222, List.drop 0 mC222, [.ref a0, .int a1], [], μ) (some (.float o), μ)
  rw [← hC]
  unfold s222 at hr
  refine mGo.steps 3 (c' := (222, List.drop 3 mC222, [.ref a0, .int a1], [.int 1, .int a1, .ref a0], μ)) rfl ?_
  obtain ⟨h1, hr⟩ := mIf hr
  obtain ⟨q2, h3, hr⟩ := mBi hr
  refine gCall (z := 159) (n := 2) (f := 0) (kind := 1) (a := a0) (As := [.int a1, .int 1]) (y := 222) (is := List.drop 4 mC222) (L := [.ref a0, .int a1]) (rest := []) (μ := μ) rfl (by decide) (by decide) ⟨rfl, rfl⟩ rfl h1 (Nat.le_of_ble_eq_true rfl) (Nat.le_of_ble_eq_true rfl) (t159 h3) ?_
  refine mGo.steps 1 (c' := (222, List.drop 5 mC222, [.ref a0, .int a1], [.int 1, .int q2], μ)) rfl ?_
  rcases mIte hr with ⟨h4, hr⟩ | ⟨h4, hr⟩
  · refine gBrT (p := ¬ q2 = 1) (y := 222) (is := List.drop 6 mC222) (L := [.ref a0, .int a1]) (st := []) (μ := μ) (t := 14) rfl h4 ?_
    refine mGo.steps 1 (c' := (222, List.drop 9 mC222, [.ref a0, .int a1], [.float FP.fconst1], μ)) rfl ?_
    exact t222_9 μ a0 a1 FP.fconst1 (.ref a0) rfl (.int a1) rfl hr hC
  · refine gBrF (p := ¬ q2 = 1) (y := 222) (is := List.drop 6 mC222) (L := [.ref a0, .int a1]) (st := []) (μ := μ) (t := 14) rfl h4 ?_
    refine mGo.steps 2 (c' := (222, List.drop 9 mC222, [.ref a0, .int a1], [.float FP.fconst2], μ)) rfl ?_
    exact t222_9 μ a0 a1 FP.fconst2 (.ref a0) rfl (.int a1) rfl hr hC

/-! 223: TunnelFabricModel.weights(II)F -/
def s223L4_25 (μ : mM) (p0 : Nat) (p1 : Int32) (p2 : Int32) (v4 : Int32) (t0 : UInt32) : Option ((UInt32 × Int32) ⊕ ((UInt32) ⊕ UInt32)) :=
  some (.inl (t0, v4 + 1))
set_option maxRecDepth 20000 in
theorem t223L4_25 (μ : mM) (p0 : Nat) (p1 : Int32) (p2 : Int32) (v4 : Int32) (t0 : UInt32) (w3 : Value) (hw3 : mNotL w3 = true) {o : ((UInt32 × Int32) ⊕ ((UInt32) ⊕ UInt32))} {r : Option Value × mM} (hr : s223L4_25 μ p0 p1 p2 v4 t0 = some o) (hC : Sum.elim (fun s' : UInt32 × Int32 => mGo mG (223, List.drop 4 mC223, [.ref p0, .int p1, .int p2, .float s'.1, .int s'.2], [], μ) r) (Sum.elim (fun x : UInt32 => ∀ (w0 : Value) (hw0 : mNotL w0 = true) (w1 : Value) (hw1 : mNotL w1 = true) (w2 : Value) (hw2 : mNotL w2 = true) (w4 : Value) (hw4 : mNotL w4 = true), mGo mG (223, List.drop 28 mC223, [w0, w1, w2, .float x, w4], [], μ) r) (fun y : UInt32 => r = (some (.float y), μ))) o) : mGo mG (223, List.drop 25 mC223, [.ref p0, .int p1, .int p2, w3, .int v4], [.float t0], μ) r := by
  unfold s223L4_25 at hr
  refine mGo.steps 3 (c' := (223, List.drop 4 mC223, [.ref p0, .int p1, .int p2, .float t0, .int (v4 + 1)], [], μ)) rfl ?_
  obtain rfl := Option.some.inj hr
  exact hC
def s223L4_24 (μ : mM) (p0 : Nat) (p1 : Int32) (p2 : Int32) (v3 : UInt32) (v4 : Int32) : Option ((UInt32 × Int32) ⊕ ((UInt32) ⊕ UInt32)) :=
  s223L4_25 μ p0 p1 p2 v4 v3
set_option maxRecDepth 20000 in
theorem t223L4_24 (μ : mM) (p0 : Nat) (p1 : Int32) (p2 : Int32) (v3 : UInt32) (v4 : Int32) {o : ((UInt32 × Int32) ⊕ ((UInt32) ⊕ UInt32))} {r : Option Value × mM} (hr : s223L4_24 μ p0 p1 p2 v3 v4 = some o) (hC : Sum.elim (fun s' : UInt32 × Int32 => mGo mG (223, List.drop 4 mC223, [.ref p0, .int p1, .int p2, .float s'.1, .int s'.2], [], μ) r) (Sum.elim (fun x : UInt32 => ∀ (w0 : Value) (hw0 : mNotL w0 = true) (w1 : Value) (hw1 : mNotL w1 = true) (w2 : Value) (hw2 : mNotL w2 = true) (w4 : Value) (hw4 : mNotL w4 = true), mGo mG (223, List.drop 28 mC223, [w0, w1, w2, .float x, w4], [], μ) r) (fun y : UInt32 => r = (some (.float y), μ))) o) : mGo mG (223, List.drop 24 mC223, [.ref p0, .int p1, .int p2, .float v3, .int v4], [], μ) r := by
  unfold s223L4_24 at hr
  refine mGo.steps 1 (c' := (223, List.drop 25 mC223, [.ref p0, .int p1, .int p2, .float v3, .int v4], [.float v3], μ)) rfl ?_
  exact t223L4_25 μ p0 p1 p2 v4 v3 (.float v3) rfl hr hC
def s223L4 (μ : mM) (p0 : Nat) (p1 : Int32) (p2 : Int32) (s : UInt32 × Int32) : Option ((UInt32 × Int32) ⊕ ((UInt32) ⊕ UInt32)) :=
  if 10 ≤ s.2 then (some (.inr (.inl s.1))) else (if (mS μ p0).1 = 9 then if (mS μ (mP μ p0 18)).1 = 12 ∧ mInb s.2 (mS μ (mP μ p0 18)).2 then if (mI μ (mP μ p0 18) (Int32.toNatClampNeg s.2)) = 0 then (s223L4_24 μ p0 p1 p2 s.1 s.2) else ((s162 μ p0 s.2 p1 p2).bind fun q3 => if q3 = 0 then (s223L4_24 μ p0 p1 p2 s.1 s.2) else ((s222 μ p0 s.2).bind fun q5 => if FP.fadd s.1 q5 &&& 0x7fffffff ≤ 0x7f800000 then s223L4_25 μ p0 p1 p2 s.2 (FP.fadd s.1 q5) else none)) else none else none)
set_option maxRecDepth 20000 in
theorem t223L4 (μ : mM) (p0 : Nat) (p1 : Int32) (p2 : Int32) {r : Option Value × mM} (s : UInt32 × Int32) (o : ((UInt32 × Int32) ⊕ ((UInt32) ⊕ UInt32))) (hr : s223L4 μ p0 p1 p2 s = some o) (hC : Sum.elim (fun s' : UInt32 × Int32 => mGo mG (223, List.drop 4 mC223, [.ref p0, .int p1, .int p2, .float s'.1, .int s'.2], [], μ) r) (Sum.elim (fun x : UInt32 => ∀ (w0 : Value) (hw0 : mNotL w0 = true) (w1 : Value) (hw1 : mNotL w1 = true) (w2 : Value) (hw2 : mNotL w2 = true) (w4 : Value) (hw4 : mNotL w4 = true), mGo mG (223, List.drop 28 mC223, [w0, w1, w2, .float x, w4], [], μ) r) (fun y : UInt32 => r = (some (.float y), μ))) o) : mGo mG (223, List.drop 4 mC223, [.ref p0, .int p1, .int p2, .float s.1, .int s.2], [], μ) r := by
  unfold s223L4 at hr
  refine mGo.steps 2 (c' := (223, List.drop 6 mC223, [.ref p0, .int p1, .int p2, .float s.1, .int s.2], [.int 10, .int s.2], μ)) rfl ?_
  rcases mIte hr with ⟨h10, hr⟩ | ⟨h10, hr⟩
  · refine gBrT (p := 10 ≤ s.2) (y := 223) (is := List.drop 7 mC223) (L := [.ref p0, .int p1, .int p2, .float s.1, .int s.2]) (st := []) (μ := μ) (t := 52) rfl h10 ?_
    obtain rfl := Option.some.inj hr
    exact hC (.ref p0) rfl (.int p1) rfl (.int p2) rfl (.int s.2) rfl
  · refine gBrF (p := 10 ≤ s.2) (y := 223) (is := List.drop 7 mC223) (L := [.ref p0, .int p1, .int p2, .float s.1, .int s.2]) (st := []) (μ := μ) (t := 52) rfl h10 ?_
    refine mGo.steps 1 (c' := (223, List.drop 8 mC223, [.ref p0, .int p1, .int p2, .float s.1, .int s.2], [.ref p0], μ)) rfl ?_
    obtain ⟨h1, hr⟩ := mIf hr
    refine gGet (is := List.drop 9 mC223) (v := .ref (mP μ p0 18)) h1 rfl ?_
    refine mGo.steps 1 (c' := (223, List.drop 10 mC223, [.ref p0, .int p1, .int p2, .float s.1, .int s.2], [.int s.2, .ref (mP μ p0 18)], μ)) rfl ?_
    obtain ⟨h2, hr⟩ := mIf hr
    refine gBald (is := List.drop 11 mC223) h2 ?_
    rcases mIte hr with ⟨h9, hr⟩ | ⟨h9, hr⟩
    · refine gBrT (p := (mI μ (mP μ p0 18) (Int32.toNatClampNeg s.2)) = 0) (y := 223) (is := List.drop 12 mC223) (L := [.ref p0, .int p1, .int p2, .float s.1, .int s.2]) (st := []) (μ := μ) (t := 44) rfl h9 ?_
      exact t223L4_24 μ p0 p1 p2 s.1 s.2 hr hC
    · refine gBrF (p := (mI μ (mP μ p0 18) (Int32.toNatClampNeg s.2)) = 0) (y := 223) (is := List.drop 12 mC223) (L := [.ref p0, .int p1, .int p2, .float s.1, .int s.2]) (st := []) (μ := μ) (t := 44) rfl h9 ?_
      refine mGo.steps 4 (c' := (223, List.drop 16 mC223, [.ref p0, .int p1, .int p2, .float s.1, .int s.2], [.int p2, .int p1, .int s.2, .ref p0], μ)) rfl ?_
      obtain ⟨q3, h4, hr⟩ := mBi hr
      refine gCall (z := 162) (n := 3) (f := 0) (kind := 1) (a := p0) (As := [.int s.2, .int p1, .int p2]) (y := 223) (is := List.drop 17 mC223) (L := [.ref p0, .int p1, .int p2, .float s.1, .int s.2]) (rest := []) (μ := μ) rfl (by decide) (by decide) ⟨rfl, rfl⟩ rfl h1 (Nat.le_of_ble_eq_true rfl) (Nat.le_of_ble_eq_true rfl) (t162 h4) ?_
      rcases mIte hr with ⟨h8, hr⟩ | ⟨h8, hr⟩
      · refine gBrT (p := q3 = 0) (y := 223) (is := List.drop 18 mC223) (L := [.ref p0, .int p1, .int p2, .float s.1, .int s.2]) (st := []) (μ := μ) (t := 44) rfl h8 ?_
        exact t223L4_24 μ p0 p1 p2 s.1 s.2 hr hC
      · refine gBrF (p := q3 = 0) (y := 223) (is := List.drop 18 mC223) (L := [.ref p0, .int p1, .int p2, .float s.1, .int s.2]) (st := []) (μ := μ) (t := 44) rfl h8 ?_
        refine mGo.steps 3 (c' := (223, List.drop 21 mC223, [.ref p0, .int p1, .int p2, .float s.1, .int s.2], [.int s.2, .ref p0, .float s.1], μ)) rfl ?_
        obtain ⟨q5, h6, hr⟩ := mBi hr
        refine gCall (z := 222) (n := 1) (f := 0) (kind := 1) (a := p0) (As := [.int s.2]) (y := 223) (is := List.drop 22 mC223) (L := [.ref p0, .int p1, .int p2, .float s.1, .int s.2]) (rest := [.float s.1]) (μ := μ) rfl (by decide) (by decide) ⟨rfl, rfl⟩ rfl h1 (Nat.le_of_ble_eq_true rfl) (Nat.le_of_ble_eq_true rfl) (t222 h6) ?_
        obtain ⟨h7, hr⟩ := mIf hr
        refine gFadd (is := List.drop 23 mC223) h7 ?_
        refine mGo.steps 1 (c' := (223, List.drop 25 mC223, [.ref p0, .int p1, .int p2, .float s.1, .int s.2], [.float (FP.fadd s.1 q5)], μ)) rfl ?_
        exact t223L4_25 μ p0 p1 p2 s.2 (FP.fadd s.1 q5) (.float s.1) rfl hr hC
theorem t223L4l (μ : mM) (p0 : Nat) (p1 : Int32) (p2 : Int32) {r : Option Value × mM} (n : Nat) (s : UInt32 × Int32) (o : (UInt32) ⊕ UInt32) (hr : mLoop (s223L4 μ p0 p1 p2) n s = some o) (hC : Sum.elim (fun x : UInt32 => ∀ (w0 : Value) (hw0 : mNotL w0 = true) (w1 : Value) (hw1 : mNotL w1 = true) (w2 : Value) (hw2 : mNotL w2 = true) (w4 : Value) (hw4 : mNotL w4 = true), mGo mG (223, List.drop 28 mC223, [w0, w1, w2, .float x, w4], [], μ) r) (fun y : UInt32 => r = (some (.float y), μ)) o) : mGo mG (223, List.drop 4 mC223, [.ref p0, .int p1, .int p2, .float s.1, .int s.2], [], μ) r :=
  mLoop_go (Hd := (fun s' : UInt32 × Int32 => mGo mG (223, List.drop 4 mC223, [.ref p0, .int p1, .int p2, .float s'.1, .int s'.2], [], μ) r)) (fun s o hb hC => t223L4 μ p0 p1 p2 s o hb hC) n s o hr hC
def s223 (μ : mM) (a0 : Nat) (a1 : Int32) (a2 : Int32) : Option UInt32 :=
  (mLoop (s223L4 μ a0 a1 a2) 1000 (FP.fconst0, 0)).bind fun o11 => Sum.elim (fun x12 => some x12) (fun y13 => some y13) o11
set_option maxRecDepth 20000 in
theorem t223 {μ : mM} {a0 : Nat} {a1 : Int32} {a2 : Int32} {o : UInt32} (hr : s223 μ a0 a1 a2 = some o) : mEv mG 223 [.ref a0, .int a1, .int a2] μ (some (.float o)) (μ) := by
  obtain ⟨r, hC⟩ : ∃ r : Option Value × mM, r = (some (.float o), μ) := ⟨_, rfl⟩
  show mGo mG (223, List.drop 0 mC223, [.ref a0, .int a1, .int a2, .retAddr 0, .retAddr 0], [], μ) (some (.float o), μ)
  rw [← hC]
  unfold s223 at hr
  refine mGo.steps 4 (c' := (223, List.drop 4 mC223, [.ref a0, .int a1, .int a2, .float FP.fconst0, .int 0], [], μ)) rfl ?_
  obtain ⟨o11, h14, hr⟩ := mBi hr
  refine t223L4l μ a0 a1 a2 1000 (FP.fconst0, 0) o11 h14 ?_ 
  cases o11 with
  | inl x12 =>
    show ∀ (w0 : Value) (hw0 : mNotL w0 = true) (w1 : Value) (hw1 : mNotL w1 = true) (w2 : Value) (hw2 : mNotL w2 = true) (w4 : Value) (hw4 : mNotL w4 = true), mGo mG (223, List.drop 28 mC223, [w0, w1, w2, .float x12, w4], [], μ) r
    intro w0 hw0 w1 hw1 w2 hw2 w4 hw4
    replace hr : (_) = some _ := hr
    refine mGo.steps 1 (c' := (223, List.drop 29 mC223, [w0, w1, w2, .float x12, w4], [.float x12], μ)) rfl ?_
    obtain rfl := Option.some.inj hr
    rw [show r = _ from hC]
    exact gFret rfl
  | inr y13 =>
    obtain rfl := Option.some.inj hr
    exact hC

/-! 224: TunnelFabricModel.narrowest(I)I -/
def s224L6_43 (μ : mM) (p0 : Nat) (p1 : Int32) (v2 : Int32) (v3 : UInt32) (v4 : Int32) : Option ((Int32 × UInt32 × Int32) ⊕ ((Int32) ⊕ Int32)) :=
  some (.inl (v2, v3, v4 + 1))
set_option maxRecDepth 20000 in
theorem t224L6_43 (μ : mM) (p0 : Nat) (p1 : Int32) (v2 : Int32) (v3 : UInt32) (v4 : Int32) (w5 : Value) (hw5 : mNotL w5 = true) (w6 : Value) (hw6 : mNotL w6 = true) {o : ((Int32 × UInt32 × Int32) ⊕ ((Int32) ⊕ Int32))} {r : Option Value × mM} (hr : s224L6_43 μ p0 p1 v2 v3 v4 = some o) (hC : Sum.elim (fun s' : Int32 × UInt32 × Int32 => ∀ (w5 : Value) (hw5 : mNotL w5 = true) (w6 : Value) (hw6 : mNotL w6 = true), mGo mG (224, List.drop 6 mC224, [.ref p0, .int p1, .int s'.1, .float s'.2.1, .int s'.2.2, w5, w6], [], μ) r) (Sum.elim (fun x : Int32 => ∀ (w0 : Value) (hw0 : mNotL w0 = true) (w1 : Value) (hw1 : mNotL w1 = true) (w3 : Value) (hw3 : mNotL w3 = true) (w4 : Value) (hw4 : mNotL w4 = true) (w5 : Value) (hw5 : mNotL w5 = true) (w6 : Value) (hw6 : mNotL w6 = true), mGo mG (224, List.drop 45 mC224, [w0, w1, .int x, w3, w4, w5, w6], [], μ) r) (fun y : Int32 => r = (some (.int y), μ))) o) : mGo mG (224, List.drop 43 mC224, [.ref p0, .int p1, .int v2, .float v3, .int v4, w5, w6], [], μ) r := by
  unfold s224L6_43 at hr
  refine mGo.steps 2 (c' := (224, List.drop 6 mC224, [.ref p0, .int p1, .int v2, .float v3, .int (v4 + 1), w5, w6], [], μ)) rfl ?_
  obtain rfl := Option.some.inj hr
  exact hC w5 hw5 w6 hw6
def s224L6_39 (μ : mM) (p0 : Nat) (p1 : Int32) (v4 : Int32) (v6 : UInt32) : Option ((Int32 × UInt32 × Int32) ⊕ ((Int32) ⊕ Int32)) :=
  s224L6_43 μ p0 p1 v4 v6 v4
set_option maxRecDepth 20000 in
theorem t224L6_39 (μ : mM) (p0 : Nat) (p1 : Int32) (v4 : Int32) (v6 : UInt32) (w2 : Value) (hw2 : mNotL w2 = true) (w3 : Value) (hw3 : mNotL w3 = true) (w5 : Value) (hw5 : mNotL w5 = true) {o : ((Int32 × UInt32 × Int32) ⊕ ((Int32) ⊕ Int32))} {r : Option Value × mM} (hr : s224L6_39 μ p0 p1 v4 v6 = some o) (hC : Sum.elim (fun s' : Int32 × UInt32 × Int32 => ∀ (w5 : Value) (hw5 : mNotL w5 = true) (w6 : Value) (hw6 : mNotL w6 = true), mGo mG (224, List.drop 6 mC224, [.ref p0, .int p1, .int s'.1, .float s'.2.1, .int s'.2.2, w5, w6], [], μ) r) (Sum.elim (fun x : Int32 => ∀ (w0 : Value) (hw0 : mNotL w0 = true) (w1 : Value) (hw1 : mNotL w1 = true) (w3 : Value) (hw3 : mNotL w3 = true) (w4 : Value) (hw4 : mNotL w4 = true) (w5 : Value) (hw5 : mNotL w5 = true) (w6 : Value) (hw6 : mNotL w6 = true), mGo mG (224, List.drop 45 mC224, [w0, w1, .int x, w3, w4, w5, w6], [], μ) r) (fun y : Int32 => r = (some (.int y), μ))) o) : mGo mG (224, List.drop 39 mC224, [.ref p0, .int p1, w2, w3, .int v4, w5, .float v6], [], μ) r := by
  unfold s224L6_39 at hr
  refine mGo.steps 4 (c' := (224, List.drop 43 mC224, [.ref p0, .int p1, .int v4, .float v6, .int v4, w5, .float v6], [], μ)) rfl ?_
  exact t224L6_43 μ p0 p1 v4 v6 v4 w5 hw5 (.float v6) rfl hr hC
def s224L6_21 (μ : mM) (p0 : Nat) (p1 : Int32) (v2 : Int32) (v3 : UInt32) (v4 : Int32) (t0 : UInt32) : Option ((Int32 × UInt32 × Int32) ⊕ ((Int32) ⊕ Int32)) :=
  if (Op.cmpValue (FP.fcmp t0 FP.fconst0) CmpOp.l) ≤ 0 then (s224L6_43 μ p0 p1 v2 v3 v4) else (if (mS μ p0).1 = 9 then if (mS μ (mP μ p0 16)).1 = 11 ∧ mInb v4 (mS μ (mP μ p0 16)).2 then if FP.fdiv (mF μ (mP μ p0 16) (Int32.toNatClampNeg v4)) t0 &&& 0x7fffffff ≤ 0x7f800000 then if v2 = 0 then (s224L6_39 μ p0 p1 v4 (FP.fdiv (mF μ (mP μ p0 16) (Int32.toNatClampNeg v4)) t0)) else (if 0 ≤ (Op.cmpValue (FP.fcmp (FP.fdiv (mF μ (mP μ p0 16) (Int32.toNatClampNeg v4)) t0) v3) CmpOp.g) then (s224L6_43 μ p0 p1 v2 v3 v4) else (s224L6_39 μ p0 p1 v4 (FP.fdiv (mF μ (mP μ p0 16) (Int32.toNatClampNeg v4)) t0))) else none else none else none)
set_option maxRecDepth 20000 in
theorem t224L6_21 (μ : mM) (p0 : Nat) (p1 : Int32) (v2 : Int32) (v3 : UInt32) (v4 : Int32) (t0 : UInt32) (w5 : Value) (hw5 : mNotL w5 = true) (w6 : Value) (hw6 : mNotL w6 = true) {o : ((Int32 × UInt32 × Int32) ⊕ ((Int32) ⊕ Int32))} {r : Option Value × mM} (hr : s224L6_21 μ p0 p1 v2 v3 v4 t0 = some o) (hC : Sum.elim (fun s' : Int32 × UInt32 × Int32 => ∀ (w5 : Value) (hw5 : mNotL w5 = true) (w6 : Value) (hw6 : mNotL w6 = true), mGo mG (224, List.drop 6 mC224, [.ref p0, .int p1, .int s'.1, .float s'.2.1, .int s'.2.2, w5, w6], [], μ) r) (Sum.elim (fun x : Int32 => ∀ (w0 : Value) (hw0 : mNotL w0 = true) (w1 : Value) (hw1 : mNotL w1 = true) (w3 : Value) (hw3 : mNotL w3 = true) (w4 : Value) (hw4 : mNotL w4 = true) (w5 : Value) (hw5 : mNotL w5 = true) (w6 : Value) (hw6 : mNotL w6 = true), mGo mG (224, List.drop 45 mC224, [w0, w1, .int x, w3, w4, w5, w6], [], μ) r) (fun y : Int32 => r = (some (.int y), μ))) o) : mGo mG (224, List.drop 21 mC224, [.ref p0, .int p1, .int v2, .float v3, .int v4, w5, w6], [.float t0], μ) r := by
  unfold s224L6_21 at hr
  refine mGo.steps 4 (c' := (224, List.drop 25 mC224, [.ref p0, .int p1, .int v2, .float v3, .int v4, .float t0, w6], [.int (Op.cmpValue (FP.fcmp t0 FP.fconst0) CmpOp.l)], μ)) rfl ?_
  rcases mIte hr with ⟨h9, hr⟩ | ⟨h9, hr⟩
  · refine gBrT (p := (Op.cmpValue (FP.fcmp t0 FP.fconst0) CmpOp.l) ≤ 0) (y := 224) (is := List.drop 26 mC224) (L := [.ref p0, .int p1, .int v2, .float v3, .int v4, .float t0, w6]) (st := []) (μ := μ) (t := 74) rfl h9 ?_
    exact t224L6_43 μ p0 p1 v2 v3 v4 (.float t0) rfl w6 hw6 hr hC
  · refine gBrF (p := (Op.cmpValue (FP.fcmp t0 FP.fconst0) CmpOp.l) ≤ 0) (y := 224) (is := List.drop 26 mC224) (L := [.ref p0, .int p1, .int v2, .float v3, .int v4, .float t0, w6]) (st := []) (μ := μ) (t := 74) rfl h9 ?_
    refine mGo.steps 1 (c' := (224, List.drop 27 mC224, [.ref p0, .int p1, .int v2, .float v3, .int v4, .float t0, w6], [.ref p0], μ)) rfl ?_
    obtain ⟨h4, hr⟩ := mIf hr
    refine gGet (is := List.drop 28 mC224) (v := .ref (mP μ p0 16)) h4 rfl ?_
    refine mGo.steps 1 (c' := (224, List.drop 29 mC224, [.ref p0, .int p1, .int v2, .float v3, .int v4, .float t0, w6], [.int v4, .ref (mP μ p0 16)], μ)) rfl ?_
    obtain ⟨h5, hr⟩ := mIf hr
    refine gFald (is := List.drop 30 mC224) h5 ?_
    refine mGo.steps 1 (c' := (224, List.drop 31 mC224, [.ref p0, .int p1, .int v2, .float v3, .int v4, .float t0, w6], [.float t0, .float (mF μ (mP μ p0 16) (Int32.toNatClampNeg v4))], μ)) rfl ?_
    obtain ⟨h6, hr⟩ := mIf hr
    refine gFdiv (is := List.drop 32 mC224) h6 ?_
    refine mGo.steps 2 (c' := (224, List.drop 34 mC224, [.ref p0, .int p1, .int v2, .float v3, .int v4, .float t0, .float (FP.fdiv (mF μ (mP μ p0 16) (Int32.toNatClampNeg v4)) t0)], [.int v2], μ)) rfl ?_
    rcases mIte hr with ⟨h8, hr⟩ | ⟨h8, hr⟩
    · refine gBrT (p := v2 = 0) (y := 224) (is := List.drop 35 mC224) (L := [.ref p0, .int p1, .int v2, .float v3, .int v4, .float t0, .float (FP.fdiv (mF μ (mP μ p0 16) (Int32.toNatClampNeg v4)) t0)]) (st := []) (μ := μ) (t := 68) rfl h8 ?_
      exact t224L6_39 μ p0 p1 v4 (FP.fdiv (mF μ (mP μ p0 16) (Int32.toNatClampNeg v4)) t0) (.int v2) rfl (.float v3) rfl (.float t0) rfl hr hC
    · refine gBrF (p := v2 = 0) (y := 224) (is := List.drop 35 mC224) (L := [.ref p0, .int p1, .int v2, .float v3, .int v4, .float t0, .float (FP.fdiv (mF μ (mP μ p0 16) (Int32.toNatClampNeg v4)) t0)]) (st := []) (μ := μ) (t := 68) rfl h8 ?_
      refine mGo.steps 3 (c' := (224, List.drop 38 mC224, [.ref p0, .int p1, .int v2, .float v3, .int v4, .float t0, .float (FP.fdiv (mF μ (mP μ p0 16) (Int32.toNatClampNeg v4)) t0)], [.int (Op.cmpValue (FP.fcmp (FP.fdiv (mF μ (mP μ p0 16) (Int32.toNatClampNeg v4)) t0) v3) CmpOp.g)], μ)) rfl ?_
      rcases mIte hr with ⟨h7, hr⟩ | ⟨h7, hr⟩
      · refine gBrT (p := 0 ≤ (Op.cmpValue (FP.fcmp (FP.fdiv (mF μ (mP μ p0 16) (Int32.toNatClampNeg v4)) t0) v3) CmpOp.g)) (y := 224) (is := List.drop 39 mC224) (L := [.ref p0, .int p1, .int v2, .float v3, .int v4, .float t0, .float (FP.fdiv (mF μ (mP μ p0 16) (Int32.toNatClampNeg v4)) t0)]) (st := []) (μ := μ) (t := 74) rfl h7 ?_
        exact t224L6_43 μ p0 p1 v2 v3 v4 (.float t0) rfl (.float (FP.fdiv (mF μ (mP μ p0 16) (Int32.toNatClampNeg v4)) t0)) rfl hr hC
      · refine gBrF (p := 0 ≤ (Op.cmpValue (FP.fcmp (FP.fdiv (mF μ (mP μ p0 16) (Int32.toNatClampNeg v4)) t0) v3) CmpOp.g)) (y := 224) (is := List.drop 39 mC224) (L := [.ref p0, .int p1, .int v2, .float v3, .int v4, .float t0, .float (FP.fdiv (mF μ (mP μ p0 16) (Int32.toNatClampNeg v4)) t0)]) (st := []) (μ := μ) (t := 74) rfl h7 ?_
        exact t224L6_39 μ p0 p1 v4 (FP.fdiv (mF μ (mP μ p0 16) (Int32.toNatClampNeg v4)) t0) (.int v2) rfl (.float v3) rfl (.float t0) rfl hr hC
def s224L6 (μ : mM) (p0 : Nat) (p1 : Int32) (s : Int32 × UInt32 × Int32) : Option ((Int32 × UInt32 × Int32) ⊕ ((Int32) ⊕ Int32)) :=
  if 8 ≤ s.2.2 then (some (.inr (.inl s.1))) else (if (mS μ p0).1 = 9 then (s148 μ p0 s.2.2 0).bind fun q2 => if ¬ q2 = 1 then (s224L6_21 μ p0 p1 s.1 s.2.1 s.2.2 FP.fconst0) else ((s223 μ p0 s.2.2 p1).bind fun q10 => s224L6_21 μ p0 p1 s.1 s.2.1 s.2.2 q10) else none)
set_option maxRecDepth 20000 in
theorem t224L6 (μ : mM) (p0 : Nat) (p1 : Int32) {r : Option Value × mM} (s : Int32 × UInt32 × Int32) (o : ((Int32 × UInt32 × Int32) ⊕ ((Int32) ⊕ Int32))) (hr : s224L6 μ p0 p1 s = some o) (hC : Sum.elim (fun s' : Int32 × UInt32 × Int32 => ∀ (w5 : Value) (hw5 : mNotL w5 = true) (w6 : Value) (hw6 : mNotL w6 = true), mGo mG (224, List.drop 6 mC224, [.ref p0, .int p1, .int s'.1, .float s'.2.1, .int s'.2.2, w5, w6], [], μ) r) (Sum.elim (fun x : Int32 => ∀ (w0 : Value) (hw0 : mNotL w0 = true) (w1 : Value) (hw1 : mNotL w1 = true) (w3 : Value) (hw3 : mNotL w3 = true) (w4 : Value) (hw4 : mNotL w4 = true) (w5 : Value) (hw5 : mNotL w5 = true) (w6 : Value) (hw6 : mNotL w6 = true), mGo mG (224, List.drop 45 mC224, [w0, w1, .int x, w3, w4, w5, w6], [], μ) r) (fun y : Int32 => r = (some (.int y), μ))) o) : ∀ (w5 : Value) (hw5 : mNotL w5 = true) (w6 : Value) (hw6 : mNotL w6 = true), mGo mG (224, List.drop 6 mC224, [.ref p0, .int p1, .int s.1, .float s.2.1, .int s.2.2, w5, w6], [], μ) r := by
  intro w5 hw5 w6 hw6
  unfold s224L6 at hr
  refine mGo.steps 2 (c' := (224, List.drop 8 mC224, [.ref p0, .int p1, .int s.1, .float s.2.1, .int s.2.2, w5, w6], [.int 8, .int s.2.2], μ)) rfl ?_
  rcases mIte hr with ⟨h13, hr⟩ | ⟨h13, hr⟩
  · refine gBrT (p := 8 ≤ s.2.2) (y := 224) (is := List.drop 9 mC224) (L := [.ref p0, .int p1, .int s.1, .float s.2.1, .int s.2.2, w5, w6]) (st := []) (μ := μ) (t := 80) rfl h13 ?_
    obtain rfl := Option.some.inj hr
    exact hC (.ref p0) rfl (.int p1) rfl (.float s.2.1) rfl (.int s.2.2) rfl w5 hw5 w6 hw6
  · refine gBrF (p := 8 ≤ s.2.2) (y := 224) (is := List.drop 9 mC224) (L := [.ref p0, .int p1, .int s.1, .float s.2.1, .int s.2.2, w5, w6]) (st := []) (μ := μ) (t := 80) rfl h13 ?_
    refine mGo.steps 3 (c' := (224, List.drop 12 mC224, [.ref p0, .int p1, .int s.1, .float s.2.1, .int s.2.2, w5, w6], [.int 0, .int s.2.2, .ref p0], μ)) rfl ?_
    obtain ⟨h1, hr⟩ := mIf hr
    obtain ⟨q2, h3, hr⟩ := mBi hr
    refine gCall (z := 148) (n := 2) (f := 0) (kind := 1) (a := p0) (As := [.int s.2.2, .int 0]) (y := 224) (is := List.drop 13 mC224) (L := [.ref p0, .int p1, .int s.1, .float s.2.1, .int s.2.2, w5, w6]) (rest := []) (μ := μ) rfl (by decide) (by decide) ⟨rfl, rfl⟩ rfl h1 (Nat.le_of_ble_eq_true rfl) (Nat.le_of_ble_eq_true rfl) (t148 h3) ?_
    refine mGo.steps 1 (c' := (224, List.drop 14 mC224, [.ref p0, .int p1, .int s.1, .float s.2.1, .int s.2.2, w5, w6], [.int 1, .int q2], μ)) rfl ?_
    rcases mIte hr with ⟨h12, hr⟩ | ⟨h12, hr⟩
    · refine gBrT (p := ¬ q2 = 1) (y := 224) (is := List.drop 15 mC224) (L := [.ref p0, .int p1, .int s.1, .float s.2.1, .int s.2.2, w5, w6]) (st := []) (μ := μ) (t := 35) rfl h12 ?_
      refine mGo.steps 1 (c' := (224, List.drop 21 mC224, [.ref p0, .int p1, .int s.1, .float s.2.1, .int s.2.2, w5, w6], [.float FP.fconst0], μ)) rfl ?_
      exact t224L6_21 μ p0 p1 s.1 s.2.1 s.2.2 FP.fconst0 w5 hw5 w6 hw6 hr hC
    · refine gBrF (p := ¬ q2 = 1) (y := 224) (is := List.drop 15 mC224) (L := [.ref p0, .int p1, .int s.1, .float s.2.1, .int s.2.2, w5, w6]) (st := []) (μ := μ) (t := 35) rfl h12 ?_
      refine mGo.steps 3 (c' := (224, List.drop 18 mC224, [.ref p0, .int p1, .int s.1, .float s.2.1, .int s.2.2, w5, w6], [.int p1, .int s.2.2, .ref p0], μ)) rfl ?_
      obtain ⟨q10, h11, hr⟩ := mBi hr
      refine gCall (z := 223) (n := 2) (f := 0) (kind := 1) (a := p0) (As := [.int s.2.2, .int p1]) (y := 224) (is := List.drop 19 mC224) (L := [.ref p0, .int p1, .int s.1, .float s.2.1, .int s.2.2, w5, w6]) (rest := []) (μ := μ) rfl (by decide) (by decide) ⟨rfl, rfl⟩ rfl h1 (Nat.le_of_ble_eq_true rfl) (Nat.le_of_ble_eq_true rfl) (t223 h11) ?_
      refine mGo.steps 1 (c' := (224, List.drop 21 mC224, [.ref p0, .int p1, .int s.1, .float s.2.1, .int s.2.2, w5, w6], [.float q10], μ)) rfl ?_
      exact t224L6_21 μ p0 p1 s.1 s.2.1 s.2.2 q10 w5 hw5 w6 hw6 hr hC
theorem t224L6l (μ : mM) (p0 : Nat) (p1 : Int32) {r : Option Value × mM} (n : Nat) (s : Int32 × UInt32 × Int32) (o : (Int32) ⊕ Int32) (hr : mLoop (s224L6 μ p0 p1) n s = some o) (hC : Sum.elim (fun x : Int32 => ∀ (w0 : Value) (hw0 : mNotL w0 = true) (w1 : Value) (hw1 : mNotL w1 = true) (w3 : Value) (hw3 : mNotL w3 = true) (w4 : Value) (hw4 : mNotL w4 = true) (w5 : Value) (hw5 : mNotL w5 = true) (w6 : Value) (hw6 : mNotL w6 = true), mGo mG (224, List.drop 45 mC224, [w0, w1, .int x, w3, w4, w5, w6], [], μ) r) (fun y : Int32 => r = (some (.int y), μ)) o) : ∀ (w5 : Value) (hw5 : mNotL w5 = true) (w6 : Value) (hw6 : mNotL w6 = true), mGo mG (224, List.drop 6 mC224, [.ref p0, .int p1, .int s.1, .float s.2.1, .int s.2.2, w5, w6], [], μ) r :=
  mLoop_go (Hd := (fun s' : Int32 × UInt32 × Int32 => ∀ (w5 : Value) (hw5 : mNotL w5 = true) (w6 : Value) (hw6 : mNotL w6 = true), mGo mG (224, List.drop 6 mC224, [.ref p0, .int p1, .int s'.1, .float s'.2.1, .int s'.2.2, w5, w6], [], μ) r)) (fun s o hb hC => t224L6 μ p0 p1 s o hb hC) n s o hr hC
def s224 (μ : mM) (a0 : Nat) (a1 : Int32) : Option Int32 :=
  (mLoop (s224L6 μ a0 a1) 1000 (0, FP.fconst0, 1)).bind fun o14 => Sum.elim (fun x15 => some x15) (fun y16 => some y16) o14
set_option maxRecDepth 20000 in
theorem t224 {μ : mM} {a0 : Nat} {a1 : Int32} {o : Int32} (hr : s224 μ a0 a1 = some o) : mEv mG 224 [.ref a0, .int a1] μ (some (.int o)) (μ) := by
  obtain ⟨r, hC⟩ : ∃ r : Option Value × mM, r = (some (.int o), μ) := ⟨_, rfl⟩
  show mGo mG (224, List.drop 0 mC224, [.ref a0, .int a1, .retAddr 0, .retAddr 0, .retAddr 0, .retAddr 0, .retAddr 0], [], μ) (some (.int o), μ)
  rw [← hC]
  unfold s224 at hr
  refine mGo.steps 6 (c' := (224, List.drop 6 mC224, [.ref a0, .int a1, .int 0, .float FP.fconst0, .int 1, .retAddr 0, .retAddr 0], [], μ)) rfl ?_
  obtain ⟨o14, h17, hr⟩ := mBi hr
  refine t224L6l μ a0 a1 1000 (0, FP.fconst0, 1) o14 h17 ?_ (.retAddr 0) rfl (.retAddr 0) rfl
  cases o14 with
  | inl x15 =>
    show ∀ (w0 : Value) (hw0 : mNotL w0 = true) (w1 : Value) (hw1 : mNotL w1 = true) (w3 : Value) (hw3 : mNotL w3 = true) (w4 : Value) (hw4 : mNotL w4 = true) (w5 : Value) (hw5 : mNotL w5 = true) (w6 : Value) (hw6 : mNotL w6 = true), mGo mG (224, List.drop 45 mC224, [w0, w1, .int x15, w3, w4, w5, w6], [], μ) r
    intro w0 hw0 w1 hw1 w3 hw3 w4 hw4 w5 hw5 w6 hw6
    replace hr : (_) = some _ := hr
    refine mGo.steps 1 (c' := (224, List.drop 46 mC224, [w0, w1, .int x15, w3, w4, w5, w6], [.int x15], μ)) rfl ?_
    obtain rfl := Option.some.inj hr
    rw [show r = _ from hC]
    exact gIret rfl
  | inr y16 =>
    obtain rfl := Option.some.inj hr
    exact hC
