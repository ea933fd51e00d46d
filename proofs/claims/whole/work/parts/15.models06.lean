/-! 150: TunnelFabricModel.isRouter(I)Z -/
def s150_14 (μ : mM) (a0 : Nat) (a1 : Int32) (t0 : Int32) : Option Int32 :=
  if t0 = 0 ∨ t0 = 1 then some t0 else none
set_option maxRecDepth 20000 in
theorem t150_14 (μ : mM) (a0 : Nat) (a1 : Int32) (t0 : Int32) (w0 : Value) (hw0 : mNotL w0 = true) (w1 : Value) (hw1 : mNotL w1 = true) {o : Int32} {r : Option Value × mM} (hr : s150_14 μ a0 a1 t0 = some o) (hC : r = (some (.int o), μ)) : mGo mG (150, List.drop 14 mC150, [w0, w1], [.int t0], μ) r := by
  unfold s150_14 at hr
  obtain ⟨h3, hr⟩ := mIf hr
  obtain rfl := Option.some.inj hr
  rw [show r = _ from hC]
  exact gZret rfl h3
def s150_13 (μ : mM) (a0 : Nat) (a1 : Int32) : Option Int32 :=
  s150_14 μ a0 a1 0
set_option maxRecDepth 20000 in
theorem t150_13 (μ : mM) (a0 : Nat) (a1 : Int32) (w0 : Value) (hw0 : mNotL w0 = true) (w1 : Value) (hw1 : mNotL w1 = true) {o : Int32} {r : Option Value × mM} (hr : s150_13 μ a0 a1 = some o) (hC : r = (some (.int o), μ)) : mGo mG (150, List.drop 13 mC150, [w0, w1], [], μ) r := by
  unfold s150_13 at hr
  refine mGo.steps 1 (c' := (150, List.drop 14 mC150, [w0, w1], [.int 0], μ)) rfl ?_
  exact t150_14 μ a0 a1 0 w0 hw0 w1 hw1 hr hC
def s150 (μ : mM) (a0 : Nat) (a1 : Int32) : Option Int32 :=
  (s144 μ a1 0 7).bind fun q1 => if q1 = 0 then (s150_13 μ a0 a1) else (if (mS μ a0).1 = 9 then (s148 μ a0 a1 0).bind fun q5 => if ¬ q5 = 1 then (s150_13 μ a0 a1) else (s150_14 μ a0 a1 1) else none)
set_option maxRecDepth 20000 in
theorem t150 {μ : mM} {a0 : Nat} {a1 : Int32} {o : Int32} (hr : s150 μ a0 a1 = some o) : mEv mG 150 [.ref a0, .int a1] μ (some (.int o)) (μ) := by
  obtain ⟨r, hC⟩ : ∃ r : Option Value × mM, r = (some (.int o), μ) := ⟨_, rfl⟩
  show mGo mG (150, List.drop 0 mC150, [.ref a0, .int a1], [], μ) (some (.int o), μ)
  rw [← hC]
  unfold s150 at hr
  refine mGo.steps 3 (c' := (150, List.drop 3 mC150, [.ref a0, .int a1], [.int 7, .int 0, .int a1], μ)) rfl ?_
  obtain ⟨q1, h2, hr⟩ := mBi hr
  refine mGo.call (z := 144) (as := [.int a1, .int 0, .int 7]) (y := 150) (is := List.drop 4 mC150) (L := [.ref a0, .int a1]) (st := []) (μ := μ) rfl (t144 h2) ?_
  rcases mIte hr with ⟨h8, hr⟩ | ⟨h8, hr⟩
  · refine gBrT (p := q1 = 0) (y := 150) (is := List.drop 5 mC150) (L := [.ref a0, .int a1]) (st := []) (μ := μ) (t := 24) rfl h8 ?_
    exact t150_13 μ a0 a1 (.ref a0) rfl (.int a1) rfl hr hC
  · refine gBrF (p := q1 = 0) (y := 150) (is := List.drop 5 mC150) (L := [.ref a0, .int a1]) (st := []) (μ := μ) (t := 24) rfl h8 ?_
    refine mGo.steps 3 (c' := (150, List.drop 8 mC150, [.ref a0, .int a1], [.int 0, .int a1, .ref a0], μ)) rfl ?_
    obtain ⟨h4, hr⟩ := mIf hr
    obtain ⟨q5, h6, hr⟩ := mBi hr
    refine gCall (z := 148) (n := 2) (f := 0) (kind := 1) (a := a0) (As := [.int a1, .int 0]) (y := 150) (is := List.drop 9 mC150) (L := [.ref a0, .int a1]) (rest := []) (μ := μ) rfl (by decide) (by decide) ⟨rfl, rfl⟩ rfl h4 (Nat.le_of_ble_eq_true rfl) (Nat.le_of_ble_eq_true rfl) (t148 h6) ?_
    refine mGo.steps 1 (c' := (150, List.drop 10 mC150, [.ref a0, .int a1], [.int 1, .int q5], μ)) rfl ?_
    rcases mIte hr with ⟨h7, hr⟩ | ⟨h7, hr⟩
    · refine gBrT (p := ¬ q5 = 1) (y := 150) (is := List.drop 11 mC150) (L := [.ref a0, .int a1]) (st := []) (μ := μ) (t := 24) rfl h7 ?_
      exact t150_13 μ a0 a1 (.ref a0) rfl (.int a1) rfl hr hC
    · refine gBrF (p := ¬ q5 = 1) (y := 150) (is := List.drop 11 mC150) (L := [.ref a0, .int a1]) (st := []) (μ := μ) (t := 24) rfl h7 ?_
      refine mGo.steps 2 (c' := (150, List.drop 14 mC150, [.ref a0, .int a1], [.int 1], μ)) rfl ?_
      exact t150_14 μ a0 a1 1 (.ref a0) rfl (.int a1) rfl hr hC

/-! 151: TunnelFabricModel.isLink(I)Z -/
def s151_9 (μ : mM) (a0 : Nat) (a1 : Int32) (t0 : Int32) : Option Int32 :=
  if t0 = 0 ∨ t0 = 1 then some t0 else none
set_option maxRecDepth 20000 in
theorem t151_9 (μ : mM) (a0 : Nat) (a1 : Int32) (t0 : Int32) (w0 : Value) (hw0 : mNotL w0 = true) (w1 : Value) (hw1 : mNotL w1 = true) {o : Int32} {r : Option Value × mM} (hr : s151_9 μ a0 a1 t0 = some o) (hC : r = (some (.int o), μ)) : mGo mG (151, List.drop 9 mC151, [w0, w1], [.int t0], μ) r := by
  unfold s151_9 at hr
  obtain ⟨h1, hr⟩ := mIf hr
  obtain rfl := Option.some.inj hr
  rw [show r = _ from hC]
  exact gZret rfl h1
def s151_8 (μ : mM) (a0 : Nat) (a1 : Int32) : Option Int32 :=
  s151_9 μ a0 a1 0
set_option maxRecDepth 20000 in
theorem t151_8 (μ : mM) (a0 : Nat) (a1 : Int32) (w0 : Value) (hw0 : mNotL w0 = true) (w1 : Value) (hw1 : mNotL w1 = true) {o : Int32} {r : Option Value × mM} (hr : s151_8 μ a0 a1 = some o) (hC : r = (some (.int o), μ)) : mGo mG (151, List.drop 8 mC151, [w0, w1], [], μ) r := by
  unfold s151_8 at hr
  refine mGo.steps 1 (c' := (151, List.drop 9 mC151, [w0, w1], [.int 0], μ)) rfl ?_
  exact t151_9 μ a0 a1 0 w0 hw0 w1 hw1 hr hC
def s151 (μ : mM) (a0 : Nat) (a1 : Int32) : Option Int32 :=
  if a1 ≤ 0 then (s151_8 μ a0 a1) else (if (mS μ a0).1 = 9 then (s150 μ a0 a1).bind fun q3 => if q3 = 0 then (s151_8 μ a0 a1) else (s151_9 μ a0 a1 1) else none)
set_option maxRecDepth 20000 in
theorem t151 {μ : mM} {a0 : Nat} {a1 : Int32} {o : Int32} (hr : s151 μ a0 a1 = some o) : mEv mG 151 [.ref a0, .int a1] μ (some (.int o)) (μ) := by
  obtain ⟨r, hC⟩ : ∃ r : Option Value × mM, r = (some (.int o), μ) := ⟨_, rfl⟩
  show mGo mG (151, List.drop 0 mC151, [.ref a0, .int a1], [], μ) (some (.int o), μ)
  rw [← hC]
  unfold s151 at hr
  refine mGo.steps 1 (c' := (151, List.drop 1 mC151, [.ref a0, .int a1], [.int a1], μ)) rfl ?_
  rcases mIte hr with ⟨h6, hr⟩ | ⟨h6, hr⟩
  · refine gBrT (p := a1 ≤ 0) (y := 151) (is := List.drop 2 mC151) (L := [.ref a0, .int a1]) (st := []) (μ := μ) (t := 16) rfl h6 ?_
    exact t151_8 μ a0 a1 (.ref a0) rfl (.int a1) rfl hr hC
  · refine gBrF (p := a1 ≤ 0) (y := 151) (is := List.drop 2 mC151) (L := [.ref a0, .int a1]) (st := []) (μ := μ) (t := 16) rfl h6 ?_
    refine mGo.steps 2 (c' := (151, List.drop 4 mC151, [.ref a0, .int a1], [.int a1, .ref a0], μ)) rfl ?_
    obtain ⟨h2, hr⟩ := mIf hr
    obtain ⟨q3, h4, hr⟩ := mBi hr
    refine gCall (z := 150) (n := 1) (f := 0) (kind := 1) (a := a0) (As := [.int a1]) (y := 151) (is := List.drop 5 mC151) (L := [.ref a0, .int a1]) (rest := []) (μ := μ) rfl (by decide) (by decide) ⟨rfl, rfl⟩ rfl h2 (Nat.le_of_ble_eq_true rfl) (Nat.le_of_ble_eq_true rfl) (t150 h4) ?_
    rcases mIte hr with ⟨h5, hr⟩ | ⟨h5, hr⟩
    · refine gBrT (p := q3 = 0) (y := 151) (is := List.drop 6 mC151) (L := [.ref a0, .int a1]) (st := []) (μ := μ) (t := 16) rfl h5 ?_
      exact t151_8 μ a0 a1 (.ref a0) rfl (.int a1) rfl hr hC
    · refine gBrF (p := q3 = 0) (y := 151) (is := List.drop 6 mC151) (L := [.ref a0, .int a1]) (st := []) (μ := μ) (t := 16) rfl h5 ?_
      refine mGo.steps 2 (c' := (151, List.drop 9 mC151, [.ref a0, .int a1], [.int 1], μ)) rfl ?_
      exact t151_9 μ a0 a1 1 (.ref a0) rfl (.int a1) rfl hr hC

/-! 152: TunnelFabricModel.depthOf(I)I -/
def s152L4 (μ : mM) (p0 : Nat) (s : Int32 × Int32) : Option ((Int32 × Int32) ⊕ ((Int32) ⊕ Int32)) :=
  if s.2 ≤ 0 then (some (.inr (.inl s.1))) else (if 8 ≤ s.1 then (some (.inr (.inl s.1))) else (if (mS μ p0).1 = 9 then (s148 μ p0 s.2 3).bind fun q2 => some (.inl (s.1 + 1, q2)) else none))
set_option maxRecDepth 20000 in
theorem t152L4 (μ : mM) (p0 : Nat) {r : Option Value × mM} (s : Int32 × Int32) (o : ((Int32 × Int32) ⊕ ((Int32) ⊕ Int32))) (hr : s152L4 μ p0 s = some o) (hC : Sum.elim (fun s' : Int32 × Int32 => ∀ (w1 : Value) (hw1 : mNotL w1 = true), mGo mG (152, List.drop 4 mC152, [.ref p0, w1, .int s'.1, .int s'.2], [], μ) r) (Sum.elim (fun x : Int32 => ∀ (w0 : Value) (hw0 : mNotL w0 = true) (w1 : Value) (hw1 : mNotL w1 = true) (w3 : Value) (hw3 : mNotL w3 = true), mGo mG (152, List.drop 16 mC152, [w0, w1, .int x, w3], [], μ) r) (fun y : Int32 => r = (some (.int y), μ))) o) : ∀ (w1 : Value) (hw1 : mNotL w1 = true), mGo mG (152, List.drop 4 mC152, [.ref p0, w1, .int s.1, .int s.2], [], μ) r := by
  intro w1 hw1
  unfold s152L4 at hr
  refine mGo.steps 1 (c' := (152, List.drop 5 mC152, [.ref p0, w1, .int s.1, .int s.2], [.int s.2], μ)) rfl ?_
  rcases mIte hr with ⟨h5, hr⟩ | ⟨h5, hr⟩
  · refine gBrT (p := s.2 ≤ 0) (y := 152) (is := List.drop 6 mC152) (L := [.ref p0, w1, .int s.1, .int s.2]) (st := []) (μ := μ) (t := 27) rfl h5 ?_
    obtain rfl := Option.some.inj hr
    exact hC (.ref p0) rfl w1 hw1 (.int s.2) rfl
  · refine gBrF (p := s.2 ≤ 0) (y := 152) (is := List.drop 6 mC152) (L := [.ref p0, w1, .int s.1, .int s.2]) (st := []) (μ := μ) (t := 27) rfl h5 ?_
    refine mGo.steps 2 (c' := (152, List.drop 8 mC152, [.ref p0, w1, .int s.1, .int s.2], [.int 8, .int s.1], μ)) rfl ?_
    rcases mIte hr with ⟨h4, hr⟩ | ⟨h4, hr⟩
    · refine gBrT (p := 8 ≤ s.1) (y := 152) (is := List.drop 9 mC152) (L := [.ref p0, w1, .int s.1, .int s.2]) (st := []) (μ := μ) (t := 27) rfl h4 ?_
      obtain rfl := Option.some.inj hr
      exact hC (.ref p0) rfl w1 hw1 (.int s.2) rfl
    · refine gBrF (p := 8 ≤ s.1) (y := 152) (is := List.drop 9 mC152) (L := [.ref p0, w1, .int s.1, .int s.2]) (st := []) (μ := μ) (t := 27) rfl h4 ?_
      refine mGo.steps 3 (c' := (152, List.drop 12 mC152, [.ref p0, w1, .int s.1, .int s.2], [.int 3, .int s.2, .ref p0], μ)) rfl ?_
      obtain ⟨h1, hr⟩ := mIf hr
      obtain ⟨q2, h3, hr⟩ := mBi hr
      refine gCall (z := 148) (n := 2) (f := 0) (kind := 1) (a := p0) (As := [.int s.2, .int 3]) (y := 152) (is := List.drop 13 mC152) (L := [.ref p0, w1, .int s.1, .int s.2]) (rest := []) (μ := μ) rfl (by decide) (by decide) ⟨rfl, rfl⟩ rfl h1 (Nat.le_of_ble_eq_true rfl) (Nat.le_of_ble_eq_true rfl) (t148 h3) ?_
      refine mGo.steps 1 (c' := (152, List.drop 14 mC152, [.ref p0, w1, .int s.1, .int q2], [], μ)) rfl ?_
      refine gSt1 (L := [.ref p0, w1, .int s.1, .int q2]) (q := 2) (w := .int (s.1 + 1)) (is := List.drop 15 mC152) (st := []) (μ := μ) rfl (Nat.le_of_ble_eq_true rfl) hw1 ?_
      refine mGo.steps 1 (c' := (152, List.drop 4 mC152, [.ref p0, w1, .int (s.1 + 1), .int q2], [], μ)) rfl ?_
      obtain rfl := Option.some.inj hr
      exact hC w1 hw1
theorem t152L4l (μ : mM) (p0 : Nat) {r : Option Value × mM} (n : Nat) (s : Int32 × Int32) (o : (Int32) ⊕ Int32) (hr : mLoop (s152L4 μ p0) n s = some o) (hC : Sum.elim (fun x : Int32 => ∀ (w0 : Value) (hw0 : mNotL w0 = true) (w1 : Value) (hw1 : mNotL w1 = true) (w3 : Value) (hw3 : mNotL w3 = true), mGo mG (152, List.drop 16 mC152, [w0, w1, .int x, w3], [], μ) r) (fun y : Int32 => r = (some (.int y), μ)) o) : ∀ (w1 : Value) (hw1 : mNotL w1 = true), mGo mG (152, List.drop 4 mC152, [.ref p0, w1, .int s.1, .int s.2], [], μ) r :=
  mLoop_go (Hd := (fun s' : Int32 × Int32 => ∀ (w1 : Value) (hw1 : mNotL w1 = true), mGo mG (152, List.drop 4 mC152, [.ref p0, w1, .int s'.1, .int s'.2], [], μ) r)) (fun s o hb hC => t152L4 μ p0 s o hb hC) n s o hr hC
def s152_16 (μ : mM) (a0 : Nat) (a1 : Int32) (v2 : Int32) : Option Int32 :=
  some v2
set_option maxRecDepth 20000 in
theorem t152_16 (μ : mM) (a0 : Nat) (a1 : Int32) (v2 : Int32) (w0 : Value) (hw0 : mNotL w0 = true) (w1 : Value) (hw1 : mNotL w1 = true) (w3 : Value) (hw3 : mNotL w3 = true) {o : Int32} {r : Option Value × mM} (hr : s152_16 μ a0 a1 v2 = some o) (hC : r = (some (.int o), μ)) : mGo mG (152, List.drop 16 mC152, [w0, w1, .int v2, w3], [], μ) r := by
  unfold s152_16 at hr
  refine mGo.steps 1 (c' := (152, List.drop 17 mC152, [w0, w1, .int v2, w3], [.int v2], μ)) rfl ?_
  obtain rfl := Option.some.inj hr
  rw [show r = _ from hC]
  exact gIret rfl
def s152 (μ : mM) (a0 : Nat) (a1 : Int32) : Option Int32 :=
  (mLoop (s152L4 μ a0) 1000 (0, a1)).bind fun o6 => Sum.elim (fun x7 => s152_16 μ a0 a1 x7) (fun y8 => some y8) o6
set_option maxRecDepth 20000 in
theorem t152 {μ : mM} {a0 : Nat} {a1 : Int32} {o : Int32} (hr : s152 μ a0 a1 = some o) : mEv mG 152 [.ref a0, .int a1] μ (some (.int o)) (μ) := by
  obtain ⟨r, hC⟩ : ∃ r : Option Value × mM, r = (some (.int o), μ) := ⟨_, rfl⟩
  show mGo mG (152, List.drop 0 mC152, [.ref a0, .int a1, .retAddr 0, .retAddr 0], [], μ) (some (.int o), μ)
  rw [← hC]
  unfold s152 at hr
  refine mGo.steps 4 (c' := (152, List.drop 4 mC152, [.ref a0, .int a1, .int 0, .int a1], [], μ)) rfl ?_
  obtain ⟨o6, h9, hr⟩ := mBi hr
  refine t152L4l μ a0 1000 (0, a1) o6 h9 ?_ (.int a1) rfl
  cases o6 with
  | inl x7 =>
    show ∀ (w0 : Value) (hw0 : mNotL w0 = true) (w1 : Value) (hw1 : mNotL w1 = true) (w3 : Value) (hw3 : mNotL w3 = true), mGo mG (152, List.drop 16 mC152, [w0, w1, .int x7, w3], [], μ) r
    intro w0 hw0 w1 hw1 w3 hw3
    replace hr : (_) = some _ := hr
    exact t152_16 μ a0 a1 x7 w0 hw0 w1 hw1 w3 hw3 hr hC
  | inr y8 =>
    obtain rfl := Option.some.inj hr
    exact hC

/-! 153: TunnelFabricModel.isOn(II)Z -/
def s153L11_29 (μ : mM) (p0 : Nat) (p1 : Int32) (v3 : Int32) (v5 : Int32) (t0 : Int32) : Option ((Int32 × Int32 × Int32) ⊕ ((Int32) ⊕ Int32)) :=
  some (.inl (v3, t0, v5 + 1))
set_option maxRecDepth 20000 in
theorem t153L11_29 (μ : mM) (p0 : Nat) (p1 : Int32) (v3 : Int32) (v5 : Int32) (t0 : Int32) (w2 : Value) (hw2 : mNotL w2 = true) (w4 : Value) (hw4 : mNotL w4 = true) {o : ((Int32 × Int32 × Int32) ⊕ ((Int32) ⊕ Int32))} {r : Option Value × mM} (hr : s153L11_29 μ p0 p1 v3 v5 t0 = some o) (hC : Sum.elim (fun s' : Int32 × Int32 × Int32 => ∀ (w2 : Value) (hw2 : mNotL w2 = true), mGo mG (153, List.drop 11 mC153, [.ref p0, .int p1, w2, .int s'.1, .int s'.2.1, .int s'.2.2], [], μ) r) (Sum.elim (fun x : Int32 => ∀ (w0 : Value) (hw0 : mNotL w0 = true) (w2 : Value) (hw2 : mNotL w2 = true) (w3 : Value) (hw3 : mNotL w3 = true) (w5 : Value) (hw5 : mNotL w5 = true), mGo mG (153, List.drop 32 mC153, [w0, .int p1, w2, w3, .int x, w5], [], μ) r) (fun y : Int32 => r = (some (.int y), μ))) o) : mGo mG (153, List.drop 29 mC153, [.ref p0, .int p1, w2, .int v3, w4, .int v5], [.int t0], μ) r := by
  unfold s153L11_29 at hr
  refine mGo.steps 3 (c' := (153, List.drop 11 mC153, [.ref p0, .int p1, w2, .int v3, .int t0, .int (v5 + 1)], [], μ)) rfl ?_
  obtain rfl := Option.some.inj hr
  exact hC w2 hw2
def s153L11 (μ : mM) (p0 : Nat) (p1 : Int32) (s : Int32 × Int32 × Int32) : Option ((Int32 × Int32 × Int32) ⊕ ((Int32) ⊕ Int32)) :=
  if 8 ≤ s.2.2 then (some (.inr (.inl s.2.1))) else (if s.1 ≤ 0 then (some (.inr (.inl s.2.1))) else (if ¬ s.2.1 = 0 then (some (.inr (.inl s.2.1))) else (if (mS μ p0).1 = 9 then (s148 μ p0 s.1 3).bind fun q2 => if ¬ q2 = p1 then (s153L11_29 μ p0 p1 q2 s.2.2 0) else (s153L11_29 μ p0 p1 q2 s.2.2 1) else none)))
set_option maxRecDepth 20000 in
theorem t153L11 (μ : mM) (p0 : Nat) (p1 : Int32) {r : Option Value × mM} (s : Int32 × Int32 × Int32) (o : ((Int32 × Int32 × Int32) ⊕ ((Int32) ⊕ Int32))) (hr : s153L11 μ p0 p1 s = some o) (hC : Sum.elim (fun s' : Int32 × Int32 × Int32 => ∀ (w2 : Value) (hw2 : mNotL w2 = true), mGo mG (153, List.drop 11 mC153, [.ref p0, .int p1, w2, .int s'.1, .int s'.2.1, .int s'.2.2], [], μ) r) (Sum.elim (fun x : Int32 => ∀ (w0 : Value) (hw0 : mNotL w0 = true) (w2 : Value) (hw2 : mNotL w2 = true) (w3 : Value) (hw3 : mNotL w3 = true) (w5 : Value) (hw5 : mNotL w5 = true), mGo mG (153, List.drop 32 mC153, [w0, .int p1, w2, w3, .int x, w5], [], μ) r) (fun y : Int32 => r = (some (.int y), μ))) o) : ∀ (w2 : Value) (hw2 : mNotL w2 = true), mGo mG (153, List.drop 11 mC153, [.ref p0, .int p1, w2, .int s.1, .int s.2.1, .int s.2.2], [], μ) r := by
  intro w2 hw2
  unfold s153L11 at hr
  refine mGo.steps 2 (c' := (153, List.drop 13 mC153, [.ref p0, .int p1, w2, .int s.1, .int s.2.1, .int s.2.2], [.int 8, .int s.2.2], μ)) rfl ?_
  rcases mIte hr with ⟨h7, hr⟩ | ⟨h7, hr⟩
  · refine gBrT (p := 8 ≤ s.2.2) (y := 153) (is := List.drop 14 mC153) (L := [.ref p0, .int p1, w2, .int s.1, .int s.2.1, .int s.2.2]) (st := []) (μ := μ) (t := 58) rfl h7 ?_
    obtain rfl := Option.some.inj hr
    exact hC (.ref p0) rfl w2 hw2 (.int s.1) rfl (.int s.2.2) rfl
  · refine gBrF (p := 8 ≤ s.2.2) (y := 153) (is := List.drop 14 mC153) (L := [.ref p0, .int p1, w2, .int s.1, .int s.2.1, .int s.2.2]) (st := []) (μ := μ) (t := 58) rfl h7 ?_
    refine mGo.steps 1 (c' := (153, List.drop 15 mC153, [.ref p0, .int p1, w2, .int s.1, .int s.2.1, .int s.2.2], [.int s.1], μ)) rfl ?_
    rcases mIte hr with ⟨h6, hr⟩ | ⟨h6, hr⟩
    · refine gBrT (p := s.1 ≤ 0) (y := 153) (is := List.drop 16 mC153) (L := [.ref p0, .int p1, w2, .int s.1, .int s.2.1, .int s.2.2]) (st := []) (μ := μ) (t := 58) rfl h6 ?_
      obtain rfl := Option.some.inj hr
      exact hC (.ref p0) rfl w2 hw2 (.int s.1) rfl (.int s.2.2) rfl
    · refine gBrF (p := s.1 ≤ 0) (y := 153) (is := List.drop 16 mC153) (L := [.ref p0, .int p1, w2, .int s.1, .int s.2.1, .int s.2.2]) (st := []) (μ := μ) (t := 58) rfl h6 ?_
      refine mGo.steps 1 (c' := (153, List.drop 17 mC153, [.ref p0, .int p1, w2, .int s.1, .int s.2.1, .int s.2.2], [.int s.2.1], μ)) rfl ?_
      rcases mIte hr with ⟨h5, hr⟩ | ⟨h5, hr⟩
      · refine gBrT (p := ¬ s.2.1 = 0) (y := 153) (is := List.drop 18 mC153) (L := [.ref p0, .int p1, w2, .int s.1, .int s.2.1, .int s.2.2]) (st := []) (μ := μ) (t := 58) rfl h5 ?_
        obtain rfl := Option.some.inj hr
        exact hC (.ref p0) rfl w2 hw2 (.int s.1) rfl (.int s.2.2) rfl
      · refine gBrF (p := ¬ s.2.1 = 0) (y := 153) (is := List.drop 18 mC153) (L := [.ref p0, .int p1, w2, .int s.1, .int s.2.1, .int s.2.2]) (st := []) (μ := μ) (t := 58) rfl h5 ?_
        refine mGo.steps 3 (c' := (153, List.drop 21 mC153, [.ref p0, .int p1, w2, .int s.1, .int s.2.1, .int s.2.2], [.int 3, .int s.1, .ref p0], μ)) rfl ?_
        obtain ⟨h1, hr⟩ := mIf hr
        obtain ⟨q2, h3, hr⟩ := mBi hr
        refine gCall (z := 148) (n := 2) (f := 0) (kind := 1) (a := p0) (As := [.int s.1, .int 3]) (y := 153) (is := List.drop 22 mC153) (L := [.ref p0, .int p1, w2, .int s.1, .int s.2.1, .int s.2.2]) (rest := []) (μ := μ) rfl (by decide) (by decide) ⟨rfl, rfl⟩ rfl h1 (Nat.le_of_ble_eq_true rfl) (Nat.le_of_ble_eq_true rfl) (t148 h3) ?_
        refine gSt1 (L := [.ref p0, .int p1, w2, .int s.1, .int s.2.1, .int s.2.2]) (q := 3) (w := .int q2) (is := List.drop 23 mC153) (st := []) (μ := μ) rfl (Nat.le_of_ble_eq_true rfl) hw2 ?_
        refine mGo.steps 2 (c' := (153, List.drop 25 mC153, [.ref p0, .int p1, w2, .int q2, .int s.2.1, .int s.2.2], [.int p1, .int q2], μ)) rfl ?_
        rcases mIte hr with ⟨h4, hr⟩ | ⟨h4, hr⟩
        · refine gBrT (p := ¬ q2 = p1) (y := 153) (is := List.drop 26 mC153) (L := [.ref p0, .int p1, w2, .int q2, .int s.2.1, .int s.2.2]) (st := []) (μ := μ) (t := 49) rfl h4 ?_
          refine mGo.steps 1 (c' := (153, List.drop 29 mC153, [.ref p0, .int p1, w2, .int q2, .int s.2.1, .int s.2.2], [.int 0], μ)) rfl ?_
          exact t153L11_29 μ p0 p1 q2 s.2.2 0 w2 hw2 (.int s.2.1) rfl hr hC
        · refine gBrF (p := ¬ q2 = p1) (y := 153) (is := List.drop 26 mC153) (L := [.ref p0, .int p1, w2, .int q2, .int s.2.1, .int s.2.2]) (st := []) (μ := μ) (t := 49) rfl h4 ?_
          refine mGo.steps 2 (c' := (153, List.drop 29 mC153, [.ref p0, .int p1, w2, .int q2, .int s.2.1, .int s.2.2], [.int 1], μ)) rfl ?_
          exact t153L11_29 μ p0 p1 q2 s.2.2 1 w2 hw2 (.int s.2.1) rfl hr hC
theorem t153L11l (μ : mM) (p0 : Nat) (p1 : Int32) {r : Option Value × mM} (n : Nat) (s : Int32 × Int32 × Int32) (o : (Int32) ⊕ Int32) (hr : mLoop (s153L11 μ p0 p1) n s = some o) (hC : Sum.elim (fun x : Int32 => ∀ (w0 : Value) (hw0 : mNotL w0 = true) (w2 : Value) (hw2 : mNotL w2 = true) (w3 : Value) (hw3 : mNotL w3 = true) (w5 : Value) (hw5 : mNotL w5 = true), mGo mG (153, List.drop 32 mC153, [w0, .int p1, w2, w3, .int x, w5], [], μ) r) (fun y : Int32 => r = (some (.int y), μ)) o) : ∀ (w2 : Value) (hw2 : mNotL w2 = true), mGo mG (153, List.drop 11 mC153, [.ref p0, .int p1, w2, .int s.1, .int s.2.1, .int s.2.2], [], μ) r :=
  mLoop_go (Hd := (fun s' : Int32 × Int32 × Int32 => ∀ (w2 : Value) (hw2 : mNotL w2 = true), mGo mG (153, List.drop 11 mC153, [.ref p0, .int p1, w2, .int s'.1, .int s'.2.1, .int s'.2.2], [], μ) r)) (fun s o hb hC => t153L11 μ p0 p1 s o hb hC) n s o hr hC
def s153_39 (μ : mM) (a0 : Nat) (a1 : Int32) (a2 : Int32) (t0 : Int32) : Option Int32 :=
  if t0 = 0 ∨ t0 = 1 then some t0 else none
set_option maxRecDepth 20000 in
theorem t153_39 (μ : mM) (a0 : Nat) (a1 : Int32) (a2 : Int32) (t0 : Int32) (w0 : Value) (hw0 : mNotL w0 = true) (w1 : Value) (hw1 : mNotL w1 = true) (w2 : Value) (hw2 : mNotL w2 = true) (w3 : Value) (hw3 : mNotL w3 = true) (w4 : Value) (hw4 : mNotL w4 = true) (w5 : Value) (hw5 : mNotL w5 = true) {o : Int32} {r : Option Value × mM} (hr : s153_39 μ a0 a1 a2 t0 = some o) (hC : r = (some (.int o), μ)) : mGo mG (153, List.drop 39 mC153, [w0, w1, w2, w3, w4, w5], [.int t0], μ) r := by
  unfold s153_39 at hr
  obtain ⟨h12, hr⟩ := mIf hr
  obtain rfl := Option.some.inj hr
  rw [show r = _ from hC]
  exact gZret rfl h12
def s153_38 (μ : mM) (a0 : Nat) (a1 : Int32) (a2 : Int32) : Option Int32 :=
  s153_39 μ a0 a1 a2 0
set_option maxRecDepth 20000 in
theorem t153_38 (μ : mM) (a0 : Nat) (a1 : Int32) (a2 : Int32) (w0 : Value) (hw0 : mNotL w0 = true) (w1 : Value) (hw1 : mNotL w1 = true) (w2 : Value) (hw2 : mNotL w2 = true) (w3 : Value) (hw3 : mNotL w3 = true) (w4 : Value) (hw4 : mNotL w4 = true) (w5 : Value) (hw5 : mNotL w5 = true) {o : Int32} {r : Option Value × mM} (hr : s153_38 μ a0 a1 a2 = some o) (hC : r = (some (.int o), μ)) : mGo mG (153, List.drop 38 mC153, [w0, w1, w2, w3, w4, w5], [], μ) r := by
  unfold s153_38 at hr
  refine mGo.steps 1 (c' := (153, List.drop 39 mC153, [w0, w1, w2, w3, w4, w5], [.int 0], μ)) rfl ?_
  exact t153_39 μ a0 a1 a2 0 w0 hw0 w1 hw1 w2 hw2 w3 hw3 w4 hw4 w5 hw5 hr hC
def s153_32 (μ : mM) (a0 : Nat) (a1 : Int32) (a2 : Int32) (v4 : Int32) : Option Int32 :=
  if v4 = 0 then (s153_38 μ a0 a1 a2) else (if a1 ≤ 0 then (s153_38 μ a0 a1 a2) else (s153_39 μ a0 a1 a2 1))
set_option maxRecDepth 20000 in
theorem t153_32 (μ : mM) (a0 : Nat) (a1 : Int32) (a2 : Int32) (v4 : Int32) (w0 : Value) (hw0 : mNotL w0 = true) (w2 : Value) (hw2 : mNotL w2 = true) (w3 : Value) (hw3 : mNotL w3 = true) (w5 : Value) (hw5 : mNotL w5 = true) {o : Int32} {r : Option Value × mM} (hr : s153_32 μ a0 a1 a2 v4 = some o) (hC : r = (some (.int o), μ)) : mGo mG (153, List.drop 32 mC153, [w0, .int a1, w2, w3, .int v4, w5], [], μ) r := by
  unfold s153_32 at hr
  refine mGo.steps 1 (c' := (153, List.drop 33 mC153, [w0, .int a1, w2, w3, .int v4, w5], [.int v4], μ)) rfl ?_
  rcases mIte hr with ⟨h14, hr⟩ | ⟨h14, hr⟩
  · refine gBrT (p := v4 = 0) (y := 153) (is := List.drop 34 mC153) (L := [w0, .int a1, w2, w3, .int v4, w5]) (st := []) (μ := μ) (t := 71) rfl h14 ?_
    exact t153_38 μ a0 a1 a2 w0 hw0 (.int a1) rfl w2 hw2 w3 hw3 (.int v4) rfl w5 hw5 hr hC
  · refine gBrF (p := v4 = 0) (y := 153) (is := List.drop 34 mC153) (L := [w0, .int a1, w2, w3, .int v4, w5]) (st := []) (μ := μ) (t := 71) rfl h14 ?_
    refine mGo.steps 1 (c' := (153, List.drop 35 mC153, [w0, .int a1, w2, w3, .int v4, w5], [.int a1], μ)) rfl ?_
    rcases mIte hr with ⟨h13, hr⟩ | ⟨h13, hr⟩
    · refine gBrT (p := a1 ≤ 0) (y := 153) (is := List.drop 36 mC153) (L := [w0, .int a1, w2, w3, .int v4, w5]) (st := []) (μ := μ) (t := 71) rfl h13 ?_
      exact t153_38 μ a0 a1 a2 w0 hw0 (.int a1) rfl w2 hw2 w3 hw3 (.int v4) rfl w5 hw5 hr hC
    · refine gBrF (p := a1 ≤ 0) (y := 153) (is := List.drop 36 mC153) (L := [w0, .int a1, w2, w3, .int v4, w5]) (st := []) (μ := μ) (t := 71) rfl h13 ?_
      refine mGo.steps 2 (c' := (153, List.drop 39 mC153, [w0, .int a1, w2, w3, .int v4, w5], [.int 1], μ)) rfl ?_
      exact t153_39 μ a0 a1 a2 1 w0 hw0 (.int a1) rfl w2 hw2 w3 hw3 (.int v4) rfl w5 hw5 hr hC
def s153_8 (μ : mM) (a0 : Nat) (a1 : Int32) (a2 : Int32) (v3 : Int32) (t0 : Int32) : Option Int32 :=
  (mLoop (s153L11 μ a0 a1) 1000 (v3, t0, 0)).bind fun o8 => Sum.elim (fun x9 => s153_32 μ a0 a1 a2 x9) (fun y10 => some y10) o8
set_option maxRecDepth 20000 in
theorem t153_8 (μ : mM) (a0 : Nat) (a1 : Int32) (a2 : Int32) (v3 : Int32) (t0 : Int32) (w2 : Value) (hw2 : mNotL w2 = true) (w4 : Value) (hw4 : mNotL w4 = true) (w5 : Value) (hw5 : mNotL w5 = true) {o : Int32} {r : Option Value × mM} (hr : s153_8 μ a0 a1 a2 v3 t0 = some o) (hC : r = (some (.int o), μ)) : mGo mG (153, List.drop 8 mC153, [.ref a0, .int a1, w2, .int v3, w4, w5], [.int t0], μ) r := by
  unfold s153_8 at hr
  refine mGo.steps 3 (c' := (153, List.drop 11 mC153, [.ref a0, .int a1, w2, .int v3, .int t0, .int 0], [], μ)) rfl ?_
  obtain ⟨o8, h11, hr⟩ := mBi hr
  refine t153L11l μ a0 a1 1000 (v3, t0, 0) o8 h11 ?_ w2 hw2
  cases o8 with
  | inl x9 =>
    show ∀ (w0 : Value) (hw0 : mNotL w0 = true) (w2 : Value) (hw2 : mNotL w2 = true) (w3 : Value) (hw3 : mNotL w3 = true) (w5 : Value) (hw5 : mNotL w5 = true), mGo mG (153, List.drop 32 mC153, [w0, .int a1, w2, w3, .int x9, w5], [], μ) r
    intro w0 hw0 w2 hw2 w3 hw3 w5 hw5
    replace hr : (_) = some _ := hr
    exact t153_32 μ a0 a1 a2 x9 w0 hw0 w2 hw2 w3 hw3 w5 hw5 hr hC
  | inr y10 =>
    obtain rfl := Option.some.inj hr
    exact hC
def s153 (μ : mM) (a0 : Nat) (a1 : Int32) (a2 : Int32) : Option Int32 :=
  if ¬ a2 = a1 then (s153_8 μ a0 a1 a2 a2 0) else (s153_8 μ a0 a1 a2 a2 1)
set_option maxRecDepth 20000 in
theorem t153 {μ : mM} {a0 : Nat} {a1 : Int32} {a2 : Int32} {o : Int32} (hr : s153 μ a0 a1 a2 = some o) : mEv mG 153 [.ref a0, .int a1, .int a2] μ (some (.int o)) (μ) := by
  obtain ⟨r, hC⟩ : ∃ r : Option Value × mM, r = (some (.int o), μ) := ⟨_, rfl⟩
  show mGo mG (153, List.drop 0 mC153, [.ref a0, .int a1, .int a2, .retAddr 0, .retAddr 0, .retAddr 0], [], μ) (some (.int o), μ)
  rw [← hC]
  unfold s153 at hr
  refine mGo.steps 4 (c' := (153, List.drop 4 mC153, [.ref a0, .int a1, .int a2, .int a2, .retAddr 0, .retAddr 0], [.int a1, .int a2], μ)) rfl ?_
  rcases mIte hr with ⟨h15, hr⟩ | ⟨h15, hr⟩
  · refine gBrT (p := ¬ a2 = a1) (y := 153) (is := List.drop 5 mC153) (L := [.ref a0, .int a1, .int a2, .int a2, .retAddr 0, .retAddr 0]) (st := []) (μ := μ) (t := 11) rfl h15 ?_
    refine mGo.steps 1 (c' := (153, List.drop 8 mC153, [.ref a0, .int a1, .int a2, .int a2, .retAddr 0, .retAddr 0], [.int 0], μ)) rfl ?_
    exact t153_8 μ a0 a1 a2 a2 0 (.int a2) rfl (.retAddr 0) rfl (.retAddr 0) rfl hr hC
  · refine gBrF (p := ¬ a2 = a1) (y := 153) (is := List.drop 5 mC153) (L := [.ref a0, .int a1, .int a2, .int a2, .retAddr 0, .retAddr 0]) (st := []) (μ := μ) (t := 11) rfl h15 ?_
    refine mGo.steps 2 (c' := (153, List.drop 8 mC153, [.ref a0, .int a1, .int a2, .int a2, .retAddr 0, .retAddr 0], [.int 1], μ)) rfl ?_
    exact t153_8 μ a0 a1 a2 a2 1 (.int a2) rfl (.retAddr 0) rfl (.retAddr 0) rfl hr hC

/-! 154: TunnelFabricModel.generationOf(I)I -/
def s154 (μ : mM) (a0 : Nat) (a1 : Int32) : Option Int32 :=
  if (mS μ a0).1 = 9 then (s148 μ a0 a1 2).bind fun q2 => (s148 μ a0 a1 3).bind fun q4 => (s148 μ a0 q4 2).bind fun q6 => (s145 μ q2 q6).bind fun q8 => some q8 else none
set_option maxRecDepth 20000 in
theorem t154 {μ : mM} {a0 : Nat} {a1 : Int32} {o : Int32} (hr : s154 μ a0 a1 = some o) : mEv mG 154 [.ref a0, .int a1] μ (some (.int o)) (μ) := by
  obtain ⟨r, hC⟩ : ∃ r : Option Value × mM, r = (some (.int o), μ) := ⟨_, rfl⟩
  show mGo mG (154, List.drop 0 mC154, [.ref a0, .int a1], [], μ) (some (.int o), μ)
  rw [← hC]
  unfold s154 at hr
  refine mGo.steps 3 (c' := (154, List.drop 3 mC154, [.ref a0, .int a1], [.int 2, .int a1, .ref a0], μ)) rfl ?_
  obtain ⟨h1, hr⟩ := mIf hr
  obtain ⟨q2, h3, hr⟩ := mBi hr
  refine gCall (z := 148) (n := 2) (f := 0) (kind := 1) (a := a0) (As := [.int a1, .int 2]) (y := 154) (is := List.drop 4 mC154) (L := [.ref a0, .int a1]) (rest := []) (μ := μ) rfl (by decide) (by decide) ⟨rfl, rfl⟩ rfl h1 (Nat.le_of_ble_eq_true rfl) (Nat.le_of_ble_eq_true rfl) (t148 h3) ?_
  refine mGo.steps 4 (c' := (154, List.drop 8 mC154, [.ref a0, .int a1], [.int 3, .int a1, .ref a0, .ref a0, .int q2], μ)) rfl ?_
  obtain ⟨q4, h5, hr⟩ := mBi hr
  refine gCall (z := 148) (n := 2) (f := 0) (kind := 1) (a := a0) (As := [.int a1, .int 3]) (y := 154) (is := List.drop 9 mC154) (L := [.ref a0, .int a1]) (rest := [.ref a0, .int q2]) (μ := μ) rfl (by decide) (by decide) ⟨rfl, rfl⟩ rfl h1 (Nat.le_of_ble_eq_true rfl) (Nat.le_of_ble_eq_true rfl) (t148 h5) ?_
  refine mGo.steps 1 (c' := (154, List.drop 10 mC154, [.ref a0, .int a1], [.int 2, .int q4, .ref a0, .int q2], μ)) rfl ?_
  obtain ⟨q6, h7, hr⟩ := mBi hr
  refine gCall (z := 148) (n := 2) (f := 0) (kind := 1) (a := a0) (As := [.int q4, .int 2]) (y := 154) (is := List.drop 11 mC154) (L := [.ref a0, .int a1]) (rest := [.int q2]) (μ := μ) rfl (by decide) (by decide) ⟨rfl, rfl⟩ rfl h1 (Nat.le_of_ble_eq_true rfl) (Nat.le_of_ble_eq_true rfl) (t148 h7) ?_
  obtain ⟨q8, h9, hr⟩ := mBi hr
  refine mGo.call (z := 145) (as := [.int q2, .int q6]) (y := 154) (is := List.drop 12 mC154) (L := [.ref a0, .int a1]) (st := []) (μ := μ) rfl (t145 h9) ?_
  obtain rfl := Option.some.inj hr
  rw [show r = _ from hC]
  exact gIret rfl

/-! 155: TunnelFabricModel.rateOf(I)I -/
def s155_11 (μ : mM) (a0 : Int32) (t0 : Int32) : Option Int32 :=
  some t0
set_option maxRecDepth 20000 in
theorem t155_11 (μ : mM) (a0 : Int32) (t0 : Int32) (w0 : Value) (hw0 : mNotL w0 = true) {o : Int32} {r : Option Value × mM} (hr : s155_11 μ a0 t0 = some o) (hC : r = (some (.int o), μ)) : mGo mG (155, List.drop 11 mC155, [w0], [.int t0], μ) r := by
  unfold s155_11 at hr
  obtain rfl := Option.some.inj hr
  rw [show r = _ from hC]
  exact gIret rfl
def s155 (μ : mM) (a0 : Int32) : Option Int32 :=
  if ¬ a0 = 1 then (if ¬ a0 = 2 then (s155_11 μ a0 4) else (s155_11 μ a0 2)) else (s155_11 μ a0 1)
set_option maxRecDepth 20000 in
theorem t155 {μ : mM} {a0 : Int32} {o : Int32} (hr : s155 μ a0 = some o) : mEv mG 155 [.int a0] μ (some (.int o)) (μ) := by
  obtain ⟨r, hC⟩ : ∃ r : Option Value × mM, r = (some (.int o), μ) := ⟨_, rfl⟩
  show mGo mG (155, List.drop 0 mC155, [.int a0], [], μ) (some (.int o), μ)
  rw [← hC]
  unfold s155 at hr
  refine mGo.steps 2 (c' := (155, List.drop 2 mC155, [.int a0], [.int 1, .int a0], μ)) rfl ?_
  rcases mIte hr with ⟨h2, hr⟩ | ⟨h2, hr⟩
  · refine gBrT (p := ¬ a0 = 1) (y := 155) (is := List.drop 3 mC155) (L := [.int a0]) (st := []) (μ := μ) (t := 9) rfl h2 ?_
    refine mGo.steps 2 (c' := (155, List.drop 7 mC155, [.int a0], [.int 2, .int a0], μ)) rfl ?_
    rcases mIte hr with ⟨h1, hr⟩ | ⟨h1, hr⟩
    · refine gBrT (p := ¬ a0 = 2) (y := 155) (is := List.drop 8 mC155) (L := [.int a0]) (st := []) (μ := μ) (t := 18) rfl h1 ?_
      refine mGo.steps 1 (c' := (155, List.drop 11 mC155, [.int a0], [.int 4], μ)) rfl ?_
      exact t155_11 μ a0 4 (.int a0) rfl hr hC
    · refine gBrF (p := ¬ a0 = 2) (y := 155) (is := List.drop 8 mC155) (L := [.int a0]) (st := []) (μ := μ) (t := 18) rfl h1 ?_
      refine mGo.steps 2 (c' := (155, List.drop 11 mC155, [.int a0], [.int 2], μ)) rfl ?_
      exact t155_11 μ a0 2 (.int a0) rfl hr hC
  · refine gBrF (p := ¬ a0 = 1) (y := 155) (is := List.drop 3 mC155) (L := [.int a0]) (st := []) (μ := μ) (t := 9) rfl h2 ?_
    refine mGo.steps 2 (c' := (155, List.drop 11 mC155, [.int a0], [.int 1], μ)) rfl ?_
    exact t155_11 μ a0 1 (.int a0) rfl hr hC

/-! 156: TunnelFabricModel.capacityOf(II)I -/
def s156_12 (μ : mM) (a0 : Nat) (a1 : Int32) (a2 : Int32) (t0 : Int32) : Option Int32 :=
  if (mS μ a0).1 = 9 then (s154 μ a0 a1).bind fun q5 => (s155 μ q5).bind fun q7 => some (q7 * t0) else none
set_option maxRecDepth 20000 in
theorem t156_12 (μ : mM) (a0 : Nat) (a1 : Int32) (a2 : Int32) (t0 : Int32) (w2 : Value) (hw2 : mNotL w2 = true) (w3 : Value) (hw3 : mNotL w3 = true) {o : Int32} {r : Option Value × mM} (hr : s156_12 μ a0 a1 a2 t0 = some o) (hC : r = (some (.int o), μ)) : mGo mG (156, List.drop 12 mC156, [.ref a0, .int a1, w2, w3], [.int t0], μ) r := by
  unfold s156_12 at hr
  refine gSt1 (L := [.ref a0, .int a1, w2, w3]) (q := 3) (w := .int t0) (is := List.drop 13 mC156) (st := []) (μ := μ) rfl (Nat.le_of_ble_eq_true rfl) hw2 ?_
  refine mGo.steps 2 (c' := (156, List.drop 15 mC156, [.ref a0, .int a1, w2, .int t0], [.int a1, .ref a0], μ)) rfl ?_
  obtain ⟨h4, hr⟩ := mIf hr
  obtain ⟨q5, h6, hr⟩ := mBi hr
  refine gCall (z := 154) (n := 1) (f := 0) (kind := 1) (a := a0) (As := [.int a1]) (y := 156) (is := List.drop 16 mC156) (L := [.ref a0, .int a1, w2, .int t0]) (rest := []) (μ := μ) rfl (by decide) (by decide) ⟨rfl, rfl⟩ rfl h4 (Nat.le_of_ble_eq_true rfl) (Nat.le_of_ble_eq_true rfl) (t154 h6) ?_
  obtain ⟨q7, h8, hr⟩ := mBi hr
  refine mGo.call (z := 155) (as := [.int q5]) (y := 156) (is := List.drop 17 mC156) (L := [.ref a0, .int a1, w2, .int t0]) (st := []) (μ := μ) rfl (t155 h8) ?_
  refine mGo.steps 2 (c' := (156, List.drop 19 mC156, [.ref a0, .int a1, w2, .int t0], [.int (q7 * t0)], μ)) rfl ?_
  obtain rfl := Option.some.inj hr
  rw [show r = _ from hC]
  exact gIret rfl
def s156 (μ : mM) (a0 : Nat) (a1 : Int32) (a2 : Int32) : Option Int32 :=
  if (mS μ a0).1 = 9 then (s148 μ a0 a1 5).bind fun q2 => if ¬ q2 = 0 then (if ¬ a2 = 0 then (s156_12 μ a0 a1 a2 1) else (s156_12 μ a0 a1 a2 3)) else (s156_12 μ a0 a1 a2 2) else none
set_option maxRecDepth 20000 in
theorem t156 {μ : mM} {a0 : Nat} {a1 : Int32} {a2 : Int32} {o : Int32} (hr : s156 μ a0 a1 a2 = some o) : mEv mG 156 [.ref a0, .int a1, .int a2] μ (some (.int o)) (μ) := by
  obtain ⟨r, hC⟩ : ∃ r : Option Value × mM, r = (some (.int o), μ) := ⟨_, rfl⟩
  show mGo mG (156, List.drop 0 mC156, [.ref a0, .int a1, .int a2, .retAddr 0], [], μ) (some (.int o), μ)
  rw [← hC]
  unfold s156 at hr
  refine mGo.steps 3 (c' := (156, List.drop 3 mC156, [.ref a0, .int a1, .int a2, .retAddr 0], [.int 5, .int a1, .ref a0], μ)) rfl ?_
  obtain ⟨h1, hr⟩ := mIf hr
  obtain ⟨q2, h3, hr⟩ := mBi hr
  refine gCall (z := 148) (n := 2) (f := 0) (kind := 1) (a := a0) (As := [.int a1, .int 5]) (y := 156) (is := List.drop 4 mC156) (L := [.ref a0, .int a1, .int a2, .retAddr 0]) (rest := []) (μ := μ) rfl (by decide) (by decide) ⟨rfl, rfl⟩ rfl h1 (Nat.le_of_ble_eq_true rfl) (Nat.le_of_ble_eq_true rfl) (t148 h3) ?_
  rcases mIte hr with ⟨h10, hr⟩ | ⟨h10, hr⟩
  · refine gBrT (p := ¬ q2 = 0) (y := 156) (is := List.drop 5 mC156) (L := [.ref a0, .int a1, .int a2, .retAddr 0]) (st := []) (μ := μ) (t := 13) rfl h10 ?_
    refine mGo.steps 1 (c' := (156, List.drop 8 mC156, [.ref a0, .int a1, .int a2, .retAddr 0], [.int a2], μ)) rfl ?_
    rcases mIte hr with ⟨h9, hr⟩ | ⟨h9, hr⟩
    · refine gBrT (p := ¬ a2 = 0) (y := 156) (is := List.drop 9 mC156) (L := [.ref a0, .int a1, .int a2, .retAddr 0]) (st := []) (μ := μ) (t := 21) rfl h9 ?_
      refine mGo.steps 1 (c' := (156, List.drop 12 mC156, [.ref a0, .int a1, .int a2, .retAddr 0], [.int 1], μ)) rfl ?_
      exact t156_12 μ a0 a1 a2 1 (.int a2) rfl (.retAddr 0) rfl hr hC
    · refine gBrF (p := ¬ a2 = 0) (y := 156) (is := List.drop 9 mC156) (L := [.ref a0, .int a1, .int a2, .retAddr 0]) (st := []) (μ := μ) (t := 21) rfl h9 ?_
      refine mGo.steps 2 (c' := (156, List.drop 12 mC156, [.ref a0, .int a1, .int a2, .retAddr 0], [.int 3], μ)) rfl ?_
      exact t156_12 μ a0 a1 a2 3 (.int a2) rfl (.retAddr 0) rfl hr hC
  · refine gBrF (p := ¬ q2 = 0) (y := 156) (is := List.drop 5 mC156) (L := [.ref a0, .int a1, .int a2, .retAddr 0]) (st := []) (μ := μ) (t := 13) rfl h10 ?_
    refine mGo.steps 2 (c' := (156, List.drop 12 mC156, [.ref a0, .int a1, .int a2, .retAddr 0], [.int 2], μ)) rfl ?_
    exact t156_12 μ a0 a1 a2 2 (.int a2) rfl (.retAddr 0) rfl hr hC

/-! 157: TunnelFabricModel.limitOf(I)I -/
def s157 (μ : mM) (a0 : Nat) (a1 : Int32) : Option Int32 :=
  if (mS μ a0).1 = 9 then (s156 μ a0 a1 0).bind fun q2 => some (q2 - 1) else none
set_option maxRecDepth 20000 in
theorem t157 {μ : mM} {a0 : Nat} {a1 : Int32} {o : Int32} (hr : s157 μ a0 a1 = some o) : mEv mG 157 [.ref a0, .int a1] μ (some (.int o)) (μ) := by
  obtain ⟨r, hC⟩ : ∃ r : Option Value × mM, r = (some (.int o), μ) := ⟨_, rfl⟩
  show mGo mG (157, List.drop 0 mC157, [.ref a0, .int a1], [], μ) (some (.int o), μ)
  rw [← hC]
  unfold s157 at hr
  refine mGo.steps 3 (c' := (157, List.drop 3 mC157, [.ref a0, .int a1], [.int 0, .int a1, .ref a0], μ)) rfl ?_
  obtain ⟨h1, hr⟩ := mIf hr
  obtain ⟨q2, h3, hr⟩ := mBi hr
  refine gCall (z := 156) (n := 2) (f := 0) (kind := 1) (a := a0) (As := [.int a1, .int 0]) (y := 157) (is := List.drop 4 mC157) (L := [.ref a0, .int a1]) (rest := []) (μ := μ) rfl (by decide) (by decide) ⟨rfl, rfl⟩ rfl h1 (Nat.le_of_ble_eq_true rfl) (Nat.le_of_ble_eq_true rfl) (t156 h3) ?_
  refine mGo.steps 2 (c' := (157, List.drop 6 mC157, [.ref a0, .int a1], [.int (q2 - 1)], μ)) rfl ?_
  obtain rfl := Option.some.inj hr
  rw [show r = _ from hC]
  exact gIret rfl

/-! 158: TunnelFabricModel.poolOf(II)I -/
def s158_21 (μ : mM) (a0 : Nat) (a1 : Int32) (a2 : Int32) (t0 : Int32) : Option Int32 :=
  some t0
set_option maxRecDepth 20000 in
theorem t158_21 (μ : mM) (a0 : Nat) (a1 : Int32) (a2 : Int32) (t0 : Int32) (w0 : Value) (hw0 : mNotL w0 = true) (w1 : Value) (hw1 : mNotL w1 = true) (w2 : Value) (hw2 : mNotL w2 = true) (w3 : Value) (hw3 : mNotL w3 = true) {o : Int32} {r : Option Value × mM} (hr : s158_21 μ a0 a1 a2 t0 = some o) (hC : r = (some (.int o), μ)) : mGo mG (158, List.drop 21 mC158, [w0, w1, w2, w3], [.int t0], μ) r := by
  unfold s158_21 at hr
  obtain rfl := Option.some.inj hr
  rw [show r = _ from hC]
  exact gIret rfl
def s158 (μ : mM) (a0 : Nat) (a1 : Int32) (a2 : Int32) : Option Int32 :=
  if (mS μ a0).1 = 9 then (s148 μ a0 a1 3).bind fun q2 => (s148 μ a0 q2 1).bind fun q4 => if ¬ a2 = 0 then ((s147 μ q4).bind fun q6 => (s146 μ q4).bind fun q8 => if ¬ q8 = 0 then s158_21 μ a0 a1 a2 (q6 / q8) else none) else ((s148 μ a0 a1 1).bind fun q11 => (s147 μ q11).bind fun q13 => s158_21 μ a0 a1 a2 q13) else none
set_option maxRecDepth 20000 in
theorem t158 {μ : mM} {a0 : Nat} {a1 : Int32} {a2 : Int32} {o : Int32} (hr : s158 μ a0 a1 a2 = some o) : mEv mG 158 [.ref a0, .int a1, .int a2] μ (some (.int o)) (μ) := by
  obtain ⟨r, hC⟩ : ∃ r : Option Value × mM, r = (some (.int o), μ) := ⟨_, rfl⟩
  show mGo mG (158, List.drop 0 mC158, [.ref a0, .int a1, .int a2, .retAddr 0], [], μ) (some (.int o), μ)
  rw [← hC]
  unfold s158 at hr
  refine mGo.steps 4 (c' := (158, List.drop 4 mC158, [.ref a0, .int a1, .int a2, .retAddr 0], [.int 3, .int a1, .ref a0, .ref a0], μ)) rfl ?_
  obtain ⟨h1, hr⟩ := mIf hr
  obtain ⟨q2, h3, hr⟩ := mBi hr
  refine gCall (z := 148) (n := 2) (f := 0) (kind := 1) (a := a0) (As := [.int a1, .int 3]) (y := 158) (is := List.drop 5 mC158) (L := [.ref a0, .int a1, .int a2, .retAddr 0]) (rest := [.ref a0]) (μ := μ) rfl (by decide) (by decide) ⟨rfl, rfl⟩ rfl h1 (Nat.le_of_ble_eq_true rfl) (Nat.le_of_ble_eq_true rfl) (t148 h3) ?_
  refine mGo.steps 1 (c' := (158, List.drop 6 mC158, [.ref a0, .int a1, .int a2, .retAddr 0], [.int 1, .int q2, .ref a0], μ)) rfl ?_
  obtain ⟨q4, h5, hr⟩ := mBi hr
  refine gCall (z := 148) (n := 2) (f := 0) (kind := 1) (a := a0) (As := [.int q2, .int 1]) (y := 158) (is := List.drop 7 mC158) (L := [.ref a0, .int a1, .int a2, .retAddr 0]) (rest := []) (μ := μ) rfl (by decide) (by decide) ⟨rfl, rfl⟩ rfl h1 (Nat.le_of_ble_eq_true rfl) (Nat.le_of_ble_eq_true rfl) (t148 h5) ?_
  refine mGo.steps 2 (c' := (158, List.drop 9 mC158, [.ref a0, .int a1, .int a2, .int q4], [.int a2], μ)) rfl ?_
  rcases mIte hr with ⟨h15, hr⟩ | ⟨h15, hr⟩
  · refine gBrT (p := ¬ a2 = 0) (y := 158) (is := List.drop 10 mC158) (L := [.ref a0, .int a1, .int a2, .int q4]) (st := []) (μ := μ) (t := 28) rfl h15 ?_
    refine mGo.steps 1 (c' := (158, List.drop 17 mC158, [.ref a0, .int a1, .int a2, .int q4], [.int q4], μ)) rfl ?_
    obtain ⟨q6, h7, hr⟩ := mBi hr
    refine mGo.call (z := 147) (as := [.int q4]) (y := 158) (is := List.drop 18 mC158) (L := [.ref a0, .int a1, .int a2, .int q4]) (st := []) (μ := μ) rfl (t147 h7) ?_
    refine mGo.steps 1 (c' := (158, List.drop 19 mC158, [.ref a0, .int a1, .int a2, .int q4], [.int q4, .int q6], μ)) rfl ?_
    obtain ⟨q8, h9, hr⟩ := mBi hr
    refine mGo.call (z := 146) (as := [.int q4]) (y := 158) (is := List.drop 20 mC158) (L := [.ref a0, .int a1, .int a2, .int q4]) (st := [.int q6]) (μ := μ) rfl (t146 h9) ?_
    obtain ⟨h10, hr⟩ := mIf hr
    refine gDiv (is := List.drop 21 mC158) h10 ?_
    exact t158_21 μ a0 a1 a2 (q6 / q8) (.ref a0) rfl (.int a1) rfl (.int a2) rfl (.int q4) rfl hr hC
  · refine gBrF (p := ¬ a2 = 0) (y := 158) (is := List.drop 10 mC158) (L := [.ref a0, .int a1, .int a2, .int q4]) (st := []) (μ := μ) (t := 28) rfl h15 ?_
    refine mGo.steps 3 (c' := (158, List.drop 13 mC158, [.ref a0, .int a1, .int a2, .int q4], [.int 1, .int a1, .ref a0], μ)) rfl ?_
    obtain ⟨q11, h12, hr⟩ := mBi hr
    refine gCall (z := 148) (n := 2) (f := 0) (kind := 1) (a := a0) (As := [.int a1, .int 1]) (y := 158) (is := List.drop 14 mC158) (L := [.ref a0, .int a1, .int a2, .int q4]) (rest := []) (μ := μ) rfl (by decide) (by decide) ⟨rfl, rfl⟩ rfl h1 (Nat.le_of_ble_eq_true rfl) (Nat.le_of_ble_eq_true rfl) (t148 h12) ?_
    obtain ⟨q13, h14, hr⟩ := mBi hr
    refine mGo.call (z := 147) (as := [.int q11]) (y := 158) (is := List.drop 15 mC158) (L := [.ref a0, .int a1, .int a2, .int q4]) (st := []) (μ := μ) rfl (t147 h14) ?_
    refine mGo.steps 1 (c' := (158, List.drop 21 mC158, [.ref a0, .int a1, .int a2, .int q4], [.int q13], μ)) rfl ?_
    exact t158_21 μ a0 a1 a2 q13 (.ref a0) rfl (.int a1) rfl (.int a2) rfl (.int q4) rfl hr hC

/-! 159: TunnelFabricModel.its(II)I -/
def s159 (μ : mM) (a0 : Nat) (a1 : Int32) (a2 : Int32) : Option Int32 :=
  if (mS μ a0).1 = 9 then if (mS μ (mP μ a0 0)).1 = 10 ∧ mInb ((72 + (6 * a1)) + a2) (mS μ (mP μ a0 0)).2 then some (mI μ (mP μ a0 0) (Int32.toNatClampNeg ((72 + (6 * a1)) + a2))) else none else none
set_option maxRecDepth 20000 in
theorem t159 {μ : mM} {a0 : Nat} {a1 : Int32} {a2 : Int32} {o : Int32} (hr : s159 μ a0 a1 a2 = some o) : mEv mG 159 [.ref a0, .int a1, .int a2] μ (some (.int o)) (μ) := by
  obtain ⟨r, hC⟩ : ∃ r : Option Value × mM, r = (some (.int o), μ) := ⟨_, rfl⟩
  show mGo mG (159, List.drop 0 mC159, [.ref a0, .int a1, .int a2], [], μ) (some (.int o), μ)
  rw [← hC]
  unfold s159 at hr
  refine mGo.steps 1 (c' := (159, List.drop 1 mC159, [.ref a0, .int a1, .int a2], [.ref a0], μ)) rfl ?_
  obtain ⟨h1, hr⟩ := mIf hr
  refine gGet (is := List.drop 2 mC159) (v := .ref (mP μ a0 0)) h1 rfl ?_
  refine mGo.steps 7 (c' := (159, List.drop 9 mC159, [.ref a0, .int a1, .int a2], [.int ((72 + (6 * a1)) + a2), .ref (mP μ a0 0)], μ)) rfl ?_
  obtain ⟨h2, hr⟩ := mIf hr
  refine gIald (is := List.drop 10 mC159) h2 ?_
  obtain rfl := Option.some.inj hr
  rw [show r = _ from hC]
  exact gIret rfl

/-! 160: TunnelFabricModel.tells(III)V -/
def s160 (μ : mM) (a0 : Nat) (a1 : Int32) (a2 : Int32) (a3 : Int32) : Option mM :=
  if (mS μ a0).1 = 9 then if (mS μ (mP μ a0 0)).1 = 10 ∧ mInb ((72 + (6 * a1)) + a2) (mS μ (mP μ a0 0)).2 then (some (mUI μ (mP μ a0 0) (Int32.toNatClampNeg ((72 + (6 * a1)) + a2)) a3)).bind fun μ3 => some μ3 else none else none
set_option maxRecDepth 20000 in
theorem t160 {μ : mM} {a0 : Nat} {a1 : Int32} {a2 : Int32} {a3 : Int32} {o : mM} (hr : s160 μ a0 a1 a2 a3 = some o) : mEv mG 160 [.ref a0, .int a1, .int a2, .int a3] μ (none) (o) := by
  obtain ⟨r, hC⟩ : ∃ r : Option Value × mM, r = (none, o) := ⟨_, rfl⟩
  show mGo mG (160, List.drop 0 mC160, [.ref a0, .int a1, .int a2, .int a3], [], μ) (none, o)
  rw [← hC]
  unfold s160 at hr
  refine mGo.steps 1 (c' := (160, List.drop 1 mC160, [.ref a0, .int a1, .int a2, .int a3], [.ref a0], μ)) rfl ?_
  obtain ⟨h1, hr⟩ := mIf hr
  refine gGet (is := List.drop 2 mC160) (v := .ref (mP μ a0 0)) h1 rfl ?_
  refine mGo.steps 8 (c' := (160, List.drop 10 mC160, [.ref a0, .int a1, .int a2, .int a3], [.int a3, .int ((72 + (6 * a1)) + a2), .ref (mP μ a0 0)], μ)) rfl ?_
  obtain ⟨h2, hr⟩ := mIf hr
  replace hr := mBs hr
  refine gIast (is := List.drop 11 mC160) h2 ?_
  let μ3 : mM := mUI μ (mP μ a0 0) (Int32.toNatClampNeg ((72 + (6 * a1)) + a2)) a3
  obtain rfl := Option.some.inj hr
  rw [show r = _ from hC]
  exact gVret rfl

/-! 161: TunnelFabricModel.isOpen(I)Z -/
def s161_14 (μ : mM) (a0 : Nat) (a1 : Int32) (t0 : Int32) : Option Int32 :=
  if t0 = 0 ∨ t0 = 1 then some t0 else none
set_option maxRecDepth 20000 in
theorem t161_14 (μ : mM) (a0 : Nat) (a1 : Int32) (t0 : Int32) (w0 : Value) (hw0 : mNotL w0 = true) (w1 : Value) (hw1 : mNotL w1 = true) {o : Int32} {r : Option Value × mM} (hr : s161_14 μ a0 a1 t0 = some o) (hC : r = (some (.int o), μ)) : mGo mG (161, List.drop 14 mC161, [w0, w1], [.int t0], μ) r := by
  unfold s161_14 at hr
  obtain ⟨h3, hr⟩ := mIf hr
  obtain rfl := Option.some.inj hr
  rw [show r = _ from hC]
  exact gZret rfl h3
def s161_13 (μ : mM) (a0 : Nat) (a1 : Int32) : Option Int32 :=
  s161_14 μ a0 a1 0
set_option maxRecDepth 20000 in
theorem t161_13 (μ : mM) (a0 : Nat) (a1 : Int32) (w0 : Value) (hw0 : mNotL w0 = true) (w1 : Value) (hw1 : mNotL w1 = true) {o : Int32} {r : Option Value × mM} (hr : s161_13 μ a0 a1 = some o) (hC : r = (some (.int o), μ)) : mGo mG (161, List.drop 13 mC161, [w0, w1], [], μ) r := by
  unfold s161_13 at hr
  refine mGo.steps 1 (c' := (161, List.drop 14 mC161, [w0, w1], [.int 0], μ)) rfl ?_
  exact t161_14 μ a0 a1 0 w0 hw0 w1 hw1 hr hC
def s161 (μ : mM) (a0 : Nat) (a1 : Int32) : Option Int32 :=
  (s144 μ a1 0 9).bind fun q1 => if q1 = 0 then (s161_13 μ a0 a1) else (if (mS μ a0).1 = 9 then (s159 μ a0 a1 0).bind fun q5 => if ¬ q5 = 1 then (s161_13 μ a0 a1) else (s161_14 μ a0 a1 1) else none)
set_option maxRecDepth 20000 in
theorem t161 {μ : mM} {a0 : Nat} {a1 : Int32} {o : Int32} (hr : s161 μ a0 a1 = some o) : mEv mG 161 [.ref a0, .int a1] μ (some (.int o)) (μ) := by
  obtain ⟨r, hC⟩ : ∃ r : Option Value × mM, r = (some (.int o), μ) := ⟨_, rfl⟩
  show mGo mG (161, List.drop 0 mC161, [.ref a0, .int a1], [], μ) (some (.int o), μ)
  rw [← hC]
  unfold s161 at hr
  refine mGo.steps 3 (c' := (161, List.drop 3 mC161, [.ref a0, .int a1], [.int 9, .int 0, .int a1], μ)) rfl ?_
  obtain ⟨q1, h2, hr⟩ := mBi hr
  refine mGo.call (z := 144) (as := [.int a1, .int 0, .int 9]) (y := 161) (is := List.drop 4 mC161) (L := [.ref a0, .int a1]) (st := []) (μ := μ) rfl (t144 h2) ?_
  rcases mIte hr with ⟨h8, hr⟩ | ⟨h8, hr⟩
  · refine gBrT (p := q1 = 0) (y := 161) (is := List.drop 5 mC161) (L := [.ref a0, .int a1]) (st := []) (μ := μ) (t := 24) rfl h8 ?_
    exact t161_13 μ a0 a1 (.ref a0) rfl (.int a1) rfl hr hC
  · refine gBrF (p := q1 = 0) (y := 161) (is := List.drop 5 mC161) (L := [.ref a0, .int a1]) (st := []) (μ := μ) (t := 24) rfl h8 ?_
    refine mGo.steps 3 (c' := (161, List.drop 8 mC161, [.ref a0, .int a1], [.int 0, .int a1, .ref a0], μ)) rfl ?_
    obtain ⟨h4, hr⟩ := mIf hr
    obtain ⟨q5, h6, hr⟩ := mBi hr
    refine gCall (z := 159) (n := 2) (f := 0) (kind := 1) (a := a0) (As := [.int a1, .int 0]) (y := 161) (is := List.drop 9 mC161) (L := [.ref a0, .int a1]) (rest := []) (μ := μ) rfl (by decide) (by decide) ⟨rfl, rfl⟩ rfl h4 (Nat.le_of_ble_eq_true rfl) (Nat.le_of_ble_eq_true rfl) (t159 h6) ?_
    refine mGo.steps 1 (c' := (161, List.drop 10 mC161, [.ref a0, .int a1], [.int 1, .int q5], μ)) rfl ?_
    rcases mIte hr with ⟨h7, hr⟩ | ⟨h7, hr⟩
    · refine gBrT (p := ¬ q5 = 1) (y := 161) (is := List.drop 11 mC161) (L := [.ref a0, .int a1]) (st := []) (μ := μ) (t := 24) rfl h7 ?_
      exact t161_13 μ a0 a1 (.ref a0) rfl (.int a1) rfl hr hC
    · refine gBrF (p := ¬ q5 = 1) (y := 161) (is := List.drop 11 mC161) (L := [.ref a0, .int a1]) (st := []) (μ := μ) (t := 24) rfl h7 ?_
      refine mGo.steps 2 (c' := (161, List.drop 14 mC161, [.ref a0, .int a1], [.int 1], μ)) rfl ?_
      exact t161_14 μ a0 a1 1 (.ref a0) rfl (.int a1) rfl hr hC

/-! 162: TunnelFabricModel.uses(III)Z -/
def s162_24 (μ : mM) (a0 : Nat) (a1 : Int32) (a2 : Int32) (a3 : Int32) (t0 : Int32) : Option Int32 :=
  if t0 = 0 ∨ t0 = 1 then some t0 else none
set_option maxRecDepth 20000 in
theorem t162_24 (μ : mM) (a0 : Nat) (a1 : Int32) (a2 : Int32) (a3 : Int32) (t0 : Int32) (w0 : Value) (hw0 : mNotL w0 = true) (w1 : Value) (hw1 : mNotL w1 = true) (w2 : Value) (hw2 : mNotL w2 = true) (w3 : Value) (hw3 : mNotL w3 = true) {o : Int32} {r : Option Value × mM} (hr : s162_24 μ a0 a1 a2 a3 t0 = some o) (hC : r = (some (.int o), μ)) : mGo mG (162, List.drop 24 mC162, [w0, w1, w2, w3], [.int t0], μ) r := by
  unfold s162_24 at hr
  obtain ⟨h4, hr⟩ := mIf hr
  obtain rfl := Option.some.inj hr
  rw [show r = _ from hC]
  exact gZret rfl h4
def s162_23 (μ : mM) (a0 : Nat) (a1 : Int32) (a2 : Int32) (a3 : Int32) : Option Int32 :=
  s162_24 μ a0 a1 a2 a3 0
set_option maxRecDepth 20000 in
theorem t162_23 (μ : mM) (a0 : Nat) (a1 : Int32) (a2 : Int32) (a3 : Int32) (w0 : Value) (hw0 : mNotL w0 = true) (w1 : Value) (hw1 : mNotL w1 = true) (w2 : Value) (hw2 : mNotL w2 = true) (w3 : Value) (hw3 : mNotL w3 = true) {o : Int32} {r : Option Value × mM} (hr : s162_23 μ a0 a1 a2 a3 = some o) (hC : r = (some (.int o), μ)) : mGo mG (162, List.drop 23 mC162, [w0, w1, w2, w3], [], μ) r := by
  unfold s162_23 at hr
  refine mGo.steps 1 (c' := (162, List.drop 24 mC162, [w0, w1, w2, w3], [.int 0], μ)) rfl ?_
  exact t162_24 μ a0 a1 a2 a3 0 w0 hw0 w1 hw1 w2 hw2 w3 hw3 hr hC
def s162_21 (μ : mM) (a0 : Nat) (a1 : Int32) (a2 : Int32) (a3 : Int32) : Option Int32 :=
  s162_24 μ a0 a1 a2 a3 1
set_option maxRecDepth 20000 in
theorem t162_21 (μ : mM) (a0 : Nat) (a1 : Int32) (a2 : Int32) (a3 : Int32) (w0 : Value) (hw0 : mNotL w0 = true) (w1 : Value) (hw1 : mNotL w1 = true) (w2 : Value) (hw2 : mNotL w2 = true) (w3 : Value) (hw3 : mNotL w3 = true) {o : Int32} {r : Option Value × mM} (hr : s162_21 μ a0 a1 a2 a3 = some o) (hC : r = (some (.int o), μ)) : mGo mG (162, List.drop 21 mC162, [w0, w1, w2, w3], [], μ) r := by
  unfold s162_21 at hr
  refine mGo.steps 2 (c' := (162, List.drop 24 mC162, [w0, w1, w2, w3], [.int 1], μ)) rfl ?_
  exact t162_24 μ a0 a1 a2 a3 1 w0 hw0 w1 hw1 w2 hw2 w3 hw3 hr hC
def s162 (μ : mM) (a0 : Nat) (a1 : Int32) (a2 : Int32) (a3 : Int32) : Option Int32 :=
  if (mS μ a0).1 = 9 then (s159 μ a0 a1 0).bind fun q2 => if ¬ q2 = 1 then (s162_23 μ a0 a1 a2 a3) else ((s159 μ a0 a1 2).bind fun q5 => (s153 μ a0 a2 q5).bind fun q7 => if q7 = 0 then (s162_23 μ a0 a1 a2 a3) else (if a3 = 0 then (s162_21 μ a0 a1 a2 a3) else ((s159 μ a0 a1 1).bind fun q9 => if q9 ≤ 0 then (s162_23 μ a0 a1 a2 a3) else (s162_21 μ a0 a1 a2 a3)))) else none
set_option maxRecDepth 20000 in
theorem t162 {μ : mM} {a0 : Nat} {a1 : Int32} {a2 : Int32} {a3 : Int32} {o : Int32} (hr : s162 μ a0 a1 a2 a3 = some o) : mEv mG 162 [.ref a0, .int a1, .int a2, .int a3] μ (some (.int o)) (μ) := by
  obtain ⟨r, hC⟩ : ∃ r : Option Value × mM, r = (some (.int o), μ) := ⟨_, rfl⟩
  show mGo mG (162, List.drop 0 mC162, [.ref a0, .int a1, .int a2, .int a3], [], μ) (some (.int o), μ)
  rw [← hC]
  unfold s162 at hr
  refine mGo.steps 3 (c' := (162, List.drop 3 mC162, [.ref a0, .int a1, .int a2, .int a3], [.int 0, .int a1, .ref a0], μ)) rfl ?_
  obtain ⟨h1, hr⟩ := mIf hr
  obtain ⟨q2, h3, hr⟩ := mBi hr
  refine gCall (z := 159) (n := 2) (f := 0) (kind := 1) (a := a0) (As := [.int a1, .int 0]) (y := 162) (is := List.drop 4 mC162) (L := [.ref a0, .int a1, .int a2, .int a3]) (rest := []) (μ := μ) rfl (by decide) (by decide) ⟨rfl, rfl⟩ rfl h1 (Nat.le_of_ble_eq_true rfl) (Nat.le_of_ble_eq_true rfl) (t159 h3) ?_
  refine mGo.steps 1 (c' := (162, List.drop 5 mC162, [.ref a0, .int a1, .int a2, .int a3], [.int 1, .int q2], μ)) rfl ?_
  rcases mIte hr with ⟨h14, hr⟩ | ⟨h14, hr⟩
  · refine gBrT (p := ¬ q2 = 1) (y := 162) (is := List.drop 6 mC162) (L := [.ref a0, .int a1, .int a2, .int a3]) (st := []) (μ := μ) (t := 41) rfl h14 ?_
    exact t162_23 μ a0 a1 a2 a3 (.ref a0) rfl (.int a1) rfl (.int a2) rfl (.int a3) rfl hr hC
  · refine gBrF (p := ¬ q2 = 1) (y := 162) (is := List.drop 6 mC162) (L := [.ref a0, .int a1, .int a2, .int a3]) (st := []) (μ := μ) (t := 41) rfl h14 ?_
    refine mGo.steps 5 (c' := (162, List.drop 11 mC162, [.ref a0, .int a1, .int a2, .int a3], [.int 2, .int a1, .ref a0, .int a2, .ref a0], μ)) rfl ?_
    obtain ⟨q5, h6, hr⟩ := mBi hr
    refine gCall (z := 159) (n := 2) (f := 0) (kind := 1) (a := a0) (As := [.int a1, .int 2]) (y := 162) (is := List.drop 12 mC162) (L := [.ref a0, .int a1, .int a2, .int a3]) (rest := [.int a2, .ref a0]) (μ := μ) rfl (by decide) (by decide) ⟨rfl, rfl⟩ rfl h1 (Nat.le_of_ble_eq_true rfl) (Nat.le_of_ble_eq_true rfl) (t159 h6) ?_
    obtain ⟨q7, h8, hr⟩ := mBi hr
    refine gCall (z := 153) (n := 2) (f := 0) (kind := 1) (a := a0) (As := [.int a2, .int q5]) (y := 162) (is := List.drop 13 mC162) (L := [.ref a0, .int a1, .int a2, .int a3]) (rest := []) (μ := μ) rfl (by decide) (by decide) ⟨rfl, rfl⟩ rfl h1 (Nat.le_of_ble_eq_true rfl) (Nat.le_of_ble_eq_true rfl) (t153 h8) ?_
    rcases mIte hr with ⟨h13, hr⟩ | ⟨h13, hr⟩
    · refine gBrT (p := q7 = 0) (y := 162) (is := List.drop 14 mC162) (L := [.ref a0, .int a1, .int a2, .int a3]) (st := []) (μ := μ) (t := 41) rfl h13 ?_
      exact t162_23 μ a0 a1 a2 a3 (.ref a0) rfl (.int a1) rfl (.int a2) rfl (.int a3) rfl hr hC
    · refine gBrF (p := q7 = 0) (y := 162) (is := List.drop 14 mC162) (L := [.ref a0, .int a1, .int a2, .int a3]) (st := []) (μ := μ) (t := 41) rfl h13 ?_
      refine mGo.steps 1 (c' := (162, List.drop 15 mC162, [.ref a0, .int a1, .int a2, .int a3], [.int a3], μ)) rfl ?_
      rcases mIte hr with ⟨h12, hr⟩ | ⟨h12, hr⟩
      · refine gBrT (p := a3 = 0) (y := 162) (is := List.drop 16 mC162) (L := [.ref a0, .int a1, .int a2, .int a3]) (st := []) (μ := μ) (t := 37) rfl h12 ?_
        exact t162_21 μ a0 a1 a2 a3 (.ref a0) rfl (.int a1) rfl (.int a2) rfl (.int a3) rfl hr hC
      · refine gBrF (p := a3 = 0) (y := 162) (is := List.drop 16 mC162) (L := [.ref a0, .int a1, .int a2, .int a3]) (st := []) (μ := μ) (t := 37) rfl h12 ?_
        refine mGo.steps 3 (c' := (162, List.drop 19 mC162, [.ref a0, .int a1, .int a2, .int a3], [.int 1, .int a1, .ref a0], μ)) rfl ?_
        obtain ⟨q9, h10, hr⟩ := mBi hr
        refine gCall (z := 159) (n := 2) (f := 0) (kind := 1) (a := a0) (As := [.int a1, .int 1]) (y := 162) (is := List.drop 20 mC162) (L := [.ref a0, .int a1, .int a2, .int a3]) (rest := []) (μ := μ) rfl (by decide) (by decide) ⟨rfl, rfl⟩ rfl h1 (Nat.le_of_ble_eq_true rfl) (Nat.le_of_ble_eq_true rfl) (t159 h10) ?_
        rcases mIte hr with ⟨h11, hr⟩ | ⟨h11, hr⟩
        · refine gBrT (p := q9 ≤ 0) (y := 162) (is := List.drop 21 mC162) (L := [.ref a0, .int a1, .int a2, .int a3]) (st := []) (μ := μ) (t := 41) rfl h11 ?_
          exact t162_23 μ a0 a1 a2 a3 (.ref a0) rfl (.int a1) rfl (.int a2) rfl (.int a3) rfl hr hC
        · refine gBrF (p := q9 ≤ 0) (y := 162) (is := List.drop 21 mC162) (L := [.ref a0, .int a1, .int a2, .int a3]) (st := []) (μ := μ) (t := 41) rfl h11 ?_
          exact t162_21 μ a0 a1 a2 a3 (.ref a0) rfl (.int a1) rfl (.int a2) rfl (.int a3) rfl hr hC

/-! 163: TunnelFabricModel.hopAt(III)I -/
def s163 (μ : mM) (a0 : Int32) (a1 : Int32) (a2 : Int32) : Option Int32 :=
  some (172 + (3 * (((8 * a0) + (4 * a1)) + a2)))
set_option maxRecDepth 20000 in
theorem t163 {μ : mM} {a0 : Int32} {a1 : Int32} {a2 : Int32} {o : Int32} (hr : s163 μ a0 a1 a2 = some o) : mEv mG 163 [.int a0, .int a1, .int a2] μ (some (.int o)) (μ) := by
  obtain ⟨r, hC⟩ : ∃ r : Option Value × mM, r = (some (.int o), μ) := ⟨_, rfl⟩
  show mGo mG (163, List.drop 0 mC163, [.int a0, .int a1, .int a2], [], μ) (some (.int o), μ)
  rw [← hC]
  unfold s163 at hr
  refine mGo.steps 13 (c' := (163, List.drop 13 mC163, [.int a0, .int a1, .int a2], [.int (172 + (3 * (((8 * a0) + (4 * a1)) + a2)))], μ)) rfl ?_
  obtain rfl := Option.some.inj hr
  rw [show r = _ from hC]
  exact gIret rfl

/-! 164: TunnelFabricModel.hopOf(III)I -/
def s164_15 (μ : mM) (a0 : Nat) (a1 : Int32) (a2 : Int32) (a3 : Int32) (t0 : Int32) : Option Int32 :=
  some t0
set_option maxRecDepth 20000 in
theorem t164_15 (μ : mM) (a0 : Nat) (a1 : Int32) (a2 : Int32) (a3 : Int32) (t0 : Int32) (w0 : Value) (hw0 : mNotL w0 = true) (w1 : Value) (hw1 : mNotL w1 = true) (w2 : Value) (hw2 : mNotL w2 = true) (w3 : Value) (hw3 : mNotL w3 = true) {o : Int32} {r : Option Value × mM} (hr : s164_15 μ a0 a1 a2 a3 t0 = some o) (hC : r = (some (.int o), μ)) : mGo mG (164, List.drop 15 mC164, [w0, w1, w2, w3], [.int t0], μ) r := by
  unfold s164_15 at hr
  obtain rfl := Option.some.inj hr
  rw [show r = _ from hC]
  exact gIret rfl
def s164 (μ : mM) (a0 : Nat) (a1 : Int32) (a2 : Int32) (a3 : Int32) : Option Int32 :=
  if ¬ a3 = 0 then (if (mS μ a0).1 = 9 then (s152 μ a0 a2).bind fun q2 => (s152 μ a0 a1).bind fun q4 => s164_15 μ a0 a1 a2 a3 (q2 - q4) else none) else (if (mS μ a0).1 = 9 then (s152 μ a0 a1).bind fun q7 => s164_15 μ a0 a1 a2 a3 (q7 - 1) else none)
set_option maxRecDepth 20000 in
theorem t164 {μ : mM} {a0 : Nat} {a1 : Int32} {a2 : Int32} {a3 : Int32} {o : Int32} (hr : s164 μ a0 a1 a2 a3 = some o) : mEv mG 164 [.ref a0, .int a1, .int a2, .int a3] μ (some (.int o)) (μ) := by
  obtain ⟨r, hC⟩ : ∃ r : Option Value × mM, r = (some (.int o), μ) := ⟨_, rfl⟩
  show mGo mG (164, List.drop 0 mC164, [.ref a0, .int a1, .int a2, .int a3], [], μ) (some (.int o), μ)
  rw [← hC]
  unfold s164 at hr
  refine mGo.steps 1 (c' := (164, List.drop 1 mC164, [.ref a0, .int a1, .int a2, .int a3], [.int a3], μ)) rfl ?_
  rcases mIte hr with ⟨h9, hr⟩ | ⟨h9, hr⟩
  · refine gBrT (p := ¬ a3 = 0) (y := 164) (is := List.drop 2 mC164) (L := [.ref a0, .int a1, .int a2, .int a3]) (st := []) (μ := μ) (t := 14) rfl h9 ?_
    refine mGo.steps 2 (c' := (164, List.drop 10 mC164, [.ref a0, .int a1, .int a2, .int a3], [.int a2, .ref a0], μ)) rfl ?_
    obtain ⟨h1, hr⟩ := mIf hr
    obtain ⟨q2, h3, hr⟩ := mBi hr
    refine gCall (z := 152) (n := 1) (f := 0) (kind := 1) (a := a0) (As := [.int a2]) (y := 164) (is := List.drop 11 mC164) (L := [.ref a0, .int a1, .int a2, .int a3]) (rest := []) (μ := μ) rfl (by decide) (by decide) ⟨rfl, rfl⟩ rfl h1 (Nat.le_of_ble_eq_true rfl) (Nat.le_of_ble_eq_true rfl) (t152 h3) ?_
    refine mGo.steps 2 (c' := (164, List.drop 13 mC164, [.ref a0, .int a1, .int a2, .int a3], [.int a1, .ref a0, .int q2], μ)) rfl ?_
    obtain ⟨q4, h5, hr⟩ := mBi hr
    refine gCall (z := 152) (n := 1) (f := 0) (kind := 1) (a := a0) (As := [.int a1]) (y := 164) (is := List.drop 14 mC164) (L := [.ref a0, .int a1, .int a2, .int a3]) (rest := [.int q2]) (μ := μ) rfl (by decide) (by decide) ⟨rfl, rfl⟩ rfl h1 (Nat.le_of_ble_eq_true rfl) (Nat.le_of_ble_eq_true rfl) (t152 h5) ?_
    refine mGo.steps 1 (c' := (164, List.drop 15 mC164, [.ref a0, .int a1, .int a2, .int a3], [.int (q2 - q4)], μ)) rfl ?_
    exact t164_15 μ a0 a1 a2 a3 (q2 - q4) (.ref a0) rfl (.int a1) rfl (.int a2) rfl (.int a3) rfl hr hC
  · refine gBrF (p := ¬ a3 = 0) (y := 164) (is := List.drop 2 mC164) (L := [.ref a0, .int a1, .int a2, .int a3]) (st := []) (μ := μ) (t := 14) rfl h9 ?_
    refine mGo.steps 2 (c' := (164, List.drop 4 mC164, [.ref a0, .int a1, .int a2, .int a3], [.int a1, .ref a0], μ)) rfl ?_
    obtain ⟨h6, hr⟩ := mIf hr
    obtain ⟨q7, h8, hr⟩ := mBi hr
    refine gCall (z := 152) (n := 1) (f := 0) (kind := 1) (a := a0) (As := [.int a1]) (y := 164) (is := List.drop 5 mC164) (L := [.ref a0, .int a1, .int a2, .int a3]) (rest := []) (μ := μ) rfl (by decide) (by decide) ⟨rfl, rfl⟩ rfl h6 (Nat.le_of_ble_eq_true rfl) (Nat.le_of_ble_eq_true rfl) (t152 h8) ?_
    refine mGo.steps 3 (c' := (164, List.drop 15 mC164, [.ref a0, .int a1, .int a2, .int a3], [.int (q7 - 1)], μ)) rfl ?_
    exact t164_15 μ a0 a1 a2 a3 (q7 - 1) (.ref a0) rfl (.int a1) rfl (.int a2) rfl (.int a3) rfl hr hC

/-! 165: TunnelFabricModel.routerOf(III)I -/
def s165L16 (μ : mM) (p0 : Nat) (p4 : Int32) (s : Int32 × Int32) : Option ((Int32 × Int32) ⊕ ((Int32) ⊕ Int32)) :=
  if p4 ≤ s.2 then (some (.inr (.inl s.1))) else (if (mS μ p0).1 = 9 then (s148 μ p0 s.1 3).bind fun q2 => some (.inl (q2, s.2 + 1)) else none)
set_option maxRecDepth 20000 in
theorem t165L16 (μ : mM) (p0 : Nat) (p4 : Int32) {r : Option Value × mM} (s : Int32 × Int32) (o : ((Int32 × Int32) ⊕ ((Int32) ⊕ Int32))) (hr : s165L16 μ p0 p4 s = some o) (hC : Sum.elim (fun s' : Int32 × Int32 => ∀ (w1 : Value) (hw1 : mNotL w1 = true) (w2 : Value) (hw2 : mNotL w2 = true) (w3 : Value) (hw3 : mNotL w3 = true), mGo mG (165, List.drop 16 mC165, [.ref p0, w1, w2, w3, .int p4, .int s'.1, .int s'.2], [], μ) r) (Sum.elim (fun x : Int32 => ∀ (w0 : Value) (hw0 : mNotL w0 = true) (w1 : Value) (hw1 : mNotL w1 = true) (w2 : Value) (hw2 : mNotL w2 = true) (w3 : Value) (hw3 : mNotL w3 = true) (w4 : Value) (hw4 : mNotL w4 = true) (w6 : Value) (hw6 : mNotL w6 = true), mGo mG (165, List.drop 26 mC165, [w0, w1, w2, w3, w4, .int x, w6], [], μ) r) (fun y : Int32 => r = (some (.int y), μ))) o) : ∀ (w1 : Value) (hw1 : mNotL w1 = true) (w2 : Value) (hw2 : mNotL w2 = true) (w3 : Value) (hw3 : mNotL w3 = true), mGo mG (165, List.drop 16 mC165, [.ref p0, w1, w2, w3, .int p4, .int s.1, .int s.2], [], μ) r := by
  intro w1 hw1 w2 hw2 w3 hw3
  unfold s165L16 at hr
  refine mGo.steps 2 (c' := (165, List.drop 18 mC165, [.ref p0, w1, w2, w3, .int p4, .int s.1, .int s.2], [.int p4, .int s.2], μ)) rfl ?_
  rcases mIte hr with ⟨h4, hr⟩ | ⟨h4, hr⟩
  · refine gBrT (p := p4 ≤ s.2) (y := 165) (is := List.drop 19 mC165) (L := [.ref p0, w1, w2, w3, .int p4, .int s.1, .int s.2]) (st := []) (μ := μ) (t := 47) rfl h4 ?_
    obtain rfl := Option.some.inj hr
    exact hC (.ref p0) rfl w1 hw1 w2 hw2 w3 hw3 (.int p4) rfl (.int s.2) rfl
  · refine gBrF (p := p4 ≤ s.2) (y := 165) (is := List.drop 19 mC165) (L := [.ref p0, w1, w2, w3, .int p4, .int s.1, .int s.2]) (st := []) (μ := μ) (t := 47) rfl h4 ?_
    refine mGo.steps 3 (c' := (165, List.drop 22 mC165, [.ref p0, w1, w2, w3, .int p4, .int s.1, .int s.2], [.int 3, .int s.1, .ref p0], μ)) rfl ?_
    obtain ⟨h1, hr⟩ := mIf hr
    obtain ⟨q2, h3, hr⟩ := mBi hr
    refine gCall (z := 148) (n := 2) (f := 0) (kind := 1) (a := p0) (As := [.int s.1, .int 3]) (y := 165) (is := List.drop 23 mC165) (L := [.ref p0, w1, w2, w3, .int p4, .int s.1, .int s.2]) (rest := []) (μ := μ) rfl (by decide) (by decide) ⟨rfl, rfl⟩ rfl h1 (Nat.le_of_ble_eq_true rfl) (Nat.le_of_ble_eq_true rfl) (t148 h3) ?_
    refine mGo.steps 3 (c' := (165, List.drop 16 mC165, [.ref p0, w1, w2, w3, .int p4, .int q2, .int (s.2 + 1)], [], μ)) rfl ?_
    obtain rfl := Option.some.inj hr
    exact hC w1 hw1 w2 hw2 w3 hw3
theorem t165L16l (μ : mM) (p0 : Nat) (p4 : Int32) {r : Option Value × mM} (n : Nat) (s : Int32 × Int32) (o : (Int32) ⊕ Int32) (hr : mLoop (s165L16 μ p0 p4) n s = some o) (hC : Sum.elim (fun x : Int32 => ∀ (w0 : Value) (hw0 : mNotL w0 = true) (w1 : Value) (hw1 : mNotL w1 = true) (w2 : Value) (hw2 : mNotL w2 = true) (w3 : Value) (hw3 : mNotL w3 = true) (w4 : Value) (hw4 : mNotL w4 = true) (w6 : Value) (hw6 : mNotL w6 = true), mGo mG (165, List.drop 26 mC165, [w0, w1, w2, w3, w4, .int x, w6], [], μ) r) (fun y : Int32 => r = (some (.int y), μ)) o) : ∀ (w1 : Value) (hw1 : mNotL w1 = true) (w2 : Value) (hw2 : mNotL w2 = true) (w3 : Value) (hw3 : mNotL w3 = true), mGo mG (165, List.drop 16 mC165, [.ref p0, w1, w2, w3, .int p4, .int s.1, .int s.2], [], μ) r :=
  mLoop_go (Hd := (fun s' : Int32 × Int32 => ∀ (w1 : Value) (hw1 : mNotL w1 = true) (w2 : Value) (hw2 : mNotL w2 = true) (w3 : Value) (hw3 : mNotL w3 = true), mGo mG (165, List.drop 16 mC165, [.ref p0, w1, w2, w3, .int p4, .int s'.1, .int s'.2], [], μ) r)) (fun s o hb hC => t165L16 μ p0 p4 s o hb hC) n s o hr hC
def s165_11 (μ : mM) (a0 : Nat) (a1 : Int32) (a2 : Int32) (a3 : Int32) (t0 : Int32) : Option Int32 :=
  (mLoop (s165L16 μ a0 t0) 1000 (a1, 0)).bind fun o5 => Sum.elim (fun x6 => some x6) (fun y7 => some y7) o5
set_option maxRecDepth 20000 in
theorem t165_11 (μ : mM) (a0 : Nat) (a1 : Int32) (a2 : Int32) (a3 : Int32) (t0 : Int32) (w2 : Value) (hw2 : mNotL w2 = true) (w3 : Value) (hw3 : mNotL w3 = true) (w4 : Value) (hw4 : mNotL w4 = true) (w5 : Value) (hw5 : mNotL w5 = true) (w6 : Value) (hw6 : mNotL w6 = true) {o : Int32} {r : Option Value × mM} (hr : s165_11 μ a0 a1 a2 a3 t0 = some o) (hC : r = (some (.int o), μ)) : mGo mG (165, List.drop 11 mC165, [.ref a0, .int a1, w2, w3, w4, w5, w6], [.int t0], μ) r := by
  unfold s165_11 at hr
  refine gSt1 (L := [.ref a0, .int a1, w2, w3, w4, w5, w6]) (q := 4) (w := .int t0) (is := List.drop 12 mC165) (st := []) (μ := μ) rfl (Nat.le_of_ble_eq_true rfl) hw3 ?_
  refine mGo.steps 4 (c' := (165, List.drop 16 mC165, [.ref a0, .int a1, w2, w3, .int t0, .int a1, .int 0], [], μ)) rfl ?_
  obtain ⟨o5, h8, hr⟩ := mBi hr
  refine t165L16l μ a0 t0 1000 (a1, 0) o5 h8 ?_ (.int a1) rfl w2 hw2 w3 hw3
  cases o5 with
  | inl x6 =>
    show ∀ (w0 : Value) (hw0 : mNotL w0 = true) (w1 : Value) (hw1 : mNotL w1 = true) (w2 : Value) (hw2 : mNotL w2 = true) (w3 : Value) (hw3 : mNotL w3 = true) (w4 : Value) (hw4 : mNotL w4 = true) (w6 : Value) (hw6 : mNotL w6 = true), mGo mG (165, List.drop 26 mC165, [w0, w1, w2, w3, w4, .int x6, w6], [], μ) r
    intro w0 hw0 w1 hw1 w2 hw2 w3 hw3 w4 hw4 w6 hw6
    replace hr : (_) = some _ := hr
    refine mGo.steps 1 (c' := (165, List.drop 27 mC165, [w0, w1, w2, w3, w4, .int x6, w6], [.int x6], μ)) rfl ?_
    obtain rfl := Option.some.inj hr
    rw [show r = _ from hC]
    exact gIret rfl
  | inr y7 =>
    obtain rfl := Option.some.inj hr
    exact hC
def s165 (μ : mM) (a0 : Nat) (a1 : Int32) (a2 : Int32) (a3 : Int32) : Option Int32 :=
  if ¬ a2 = 0 then (s165_11 μ a0 a1 a2 a3 a3) else (if (mS μ a0).1 = 9 then (s152 μ a0 a1).bind fun q10 => s165_11 μ a0 a1 a2 a3 ((q10 - 1) - a3) else none)
set_option maxRecDepth 20000 in
theorem t165 {μ : mM} {a0 : Nat} {a1 : Int32} {a2 : Int32} {a3 : Int32} {o : Int32} (hr : s165 μ a0 a1 a2 a3 = some o) : mEv mG 165 [.ref a0, .int a1, .int a2, .int a3] μ (some (.int o)) (μ) := by
  obtain ⟨r, hC⟩ : ∃ r : Option Value × mM, r = (some (.int o), μ) := ⟨_, rfl⟩
  show mGo mG (165, List.drop 0 mC165, [.ref a0, .int a1, .int a2, .int a3, .retAddr 0, .retAddr 0, .retAddr 0], [], μ) (some (.int o), μ)
  rw [← hC]
  unfold s165 at hr
  refine mGo.steps 1 (c' := (165, List.drop 1 mC165, [.ref a0, .int a1, .int a2, .int a3, .retAddr 0, .retAddr 0, .retAddr 0], [.int a2], μ)) rfl ?_
  rcases mIte hr with ⟨h12, hr⟩ | ⟨h12, hr⟩
  · refine gBrT (p := ¬ a2 = 0) (y := 165) (is := List.drop 2 mC165) (L := [.ref a0, .int a1, .int a2, .int a3, .retAddr 0, .retAddr 0, .retAddr 0]) (st := []) (μ := μ) (t := 16) rfl h12 ?_
    refine mGo.steps 1 (c' := (165, List.drop 11 mC165, [.ref a0, .int a1, .int a2, .int a3, .retAddr 0, .retAddr 0, .retAddr 0], [.int a3], μ)) rfl ?_
    exact t165_11 μ a0 a1 a2 a3 a3 (.int a2) rfl (.int a3) rfl (.retAddr 0) rfl (.retAddr 0) rfl (.retAddr 0) rfl hr hC
  · refine gBrF (p := ¬ a2 = 0) (y := 165) (is := List.drop 2 mC165) (L := [.ref a0, .int a1, .int a2, .int a3, .retAddr 0, .retAddr 0, .retAddr 0]) (st := []) (μ := μ) (t := 16) rfl h12 ?_
    refine mGo.steps 2 (c' := (165, List.drop 4 mC165, [.ref a0, .int a1, .int a2, .int a3, .retAddr 0, .retAddr 0, .retAddr 0], [.int a1, .ref a0], μ)) rfl ?_
    obtain ⟨h9, hr⟩ := mIf hr
    obtain ⟨q10, h11, hr⟩ := mBi hr
    refine gCall (z := 152) (n := 1) (f := 0) (kind := 1) (a := a0) (As := [.int a1]) (y := 165) (is := List.drop 5 mC165) (L := [.ref a0, .int a1, .int a2, .int a3, .retAddr 0, .retAddr 0, .retAddr 0]) (rest := []) (μ := μ) rfl (by decide) (by decide) ⟨rfl, rfl⟩ rfl h9 (Nat.le_of_ble_eq_true rfl) (Nat.le_of_ble_eq_true rfl) (t152 h11) ?_
    refine mGo.steps 5 (c' := (165, List.drop 11 mC165, [.ref a0, .int a1, .int a2, .int a3, .retAddr 0, .retAddr 0, .retAddr 0], [.int ((q10 - 1) - a3)], μ)) rfl ?_
    exact t165_11 μ a0 a1 a2 a3 ((q10 - 1) - a3) (.int a2) rfl (.int a3) rfl (.retAddr 0) rfl (.retAddr 0) rfl (.retAddr 0) rfl hr hC

/-! 166: TunnelFabricModel.freeOf(II)I -/
def s166L7_37 (μ : mM) (p0 : Nat) (p1 : Int32) (p2 : Int32) (v3 : Int32) (v4 : Int32) : Option ((Int32 × Int32) ⊕ ((Int32) ⊕ Int32)) :=
  some (.inl (v3, v4 + 1))
set_option maxRecDepth 20000 in
theorem t166L7_37 (μ : mM) (p0 : Nat) (p1 : Int32) (p2 : Int32) (v3 : Int32) (v4 : Int32) (w5 : Value) (hw5 : mNotL w5 = true) {o : ((Int32 × Int32) ⊕ ((Int32) ⊕ Int32))} {r : Option Value × mM} (hr : s166L7_37 μ p0 p1 p2 v3 v4 = some o) (hC : Sum.elim (fun s' : Int32 × Int32 => ∀ (w5 : Value) (hw5 : mNotL w5 = true), mGo mG (166, List.drop 7 mC166, [.ref p0, .int p1, .int p2, .int s'.1, .int s'.2, w5], [], μ) r) (Sum.elim (fun x : Int32 => ∀ (w0 : Value) (hw0 : mNotL w0 = true) (w1 : Value) (hw1 : mNotL w1 = true) (w2 : Value) (hw2 : mNotL w2 = true) (w4 : Value) (hw4 : mNotL w4 = true) (w5 : Value) (hw5 : mNotL w5 = true), mGo mG (166, List.drop 39 mC166, [w0, w1, w2, .int x, w4, w5], [], μ) r) (fun y : Int32 => r = (some (.int y), μ))) o) : mGo mG (166, List.drop 37 mC166, [.ref p0, .int p1, .int p2, .int v3, .int v4, w5], [], μ) r := by
  unfold s166L7_37 at hr
  refine mGo.steps 2 (c' := (166, List.drop 7 mC166, [.ref p0, .int p1, .int p2, .int v3, .int (v4 + 1), w5], [], μ)) rfl ?_
  obtain rfl := Option.some.inj hr
  exact hC w5 hw5
def s166L7 (μ : mM) (p0 : Nat) (p1 : Int32) (p2 : Int32) (s : Int32 × Int32) : Option ((Int32 × Int32) ⊕ ((Int32) ⊕ Int32)) :=
  if 10 ≤ s.2 then (some (.inr (.inl s.1))) else (if (mS μ p0).1 = 9 then (s162 μ p0 s.2 p1 p2).bind fun q5 => if q5 = 0 then (s166L7_37 μ p0 p1 p2 s.1 s.2) else ((s159 μ p0 s.2 2).bind fun q7 => (s164 μ p0 p1 q7 p2).bind fun q9 => (s163 μ s.2 p2 q9).bind fun q11 => if (mS μ (mP μ p0 0)).1 = 10 ∧ mInb (q11 + 1) (mS μ (mP μ p0 0)).2 then s166L7_37 μ p0 p1 p2 (s.1 - (mI μ (mP μ p0 0) (Int32.toNatClampNeg (q11 + 1)))) s.2 else none) else none)
set_option maxRecDepth 20000 in
theorem t166L7 (μ : mM) (p0 : Nat) (p1 : Int32) (p2 : Int32) {r : Option Value × mM} (s : Int32 × Int32) (o : ((Int32 × Int32) ⊕ ((Int32) ⊕ Int32))) (hr : s166L7 μ p0 p1 p2 s = some o) (hC : Sum.elim (fun s' : Int32 × Int32 => ∀ (w5 : Value) (hw5 : mNotL w5 = true), mGo mG (166, List.drop 7 mC166, [.ref p0, .int p1, .int p2, .int s'.1, .int s'.2, w5], [], μ) r) (Sum.elim (fun x : Int32 => ∀ (w0 : Value) (hw0 : mNotL w0 = true) (w1 : Value) (hw1 : mNotL w1 = true) (w2 : Value) (hw2 : mNotL w2 = true) (w4 : Value) (hw4 : mNotL w4 = true) (w5 : Value) (hw5 : mNotL w5 = true), mGo mG (166, List.drop 39 mC166, [w0, w1, w2, .int x, w4, w5], [], μ) r) (fun y : Int32 => r = (some (.int y), μ))) o) : ∀ (w5 : Value) (hw5 : mNotL w5 = true), mGo mG (166, List.drop 7 mC166, [.ref p0, .int p1, .int p2, .int s.1, .int s.2, w5], [], μ) r := by
  intro w5 hw5
  unfold s166L7 at hr
  refine mGo.steps 2 (c' := (166, List.drop 9 mC166, [.ref p0, .int p1, .int p2, .int s.1, .int s.2, w5], [.int 10, .int s.2], μ)) rfl ?_
  rcases mIte hr with ⟨h15, hr⟩ | ⟨h15, hr⟩
  · refine gBrT (p := 10 ≤ s.2) (y := 166) (is := List.drop 10 mC166) (L := [.ref p0, .int p1, .int p2, .int s.1, .int s.2, w5]) (st := []) (μ := μ) (t := 67) rfl h15 ?_
    obtain rfl := Option.some.inj hr
    exact hC (.ref p0) rfl (.int p1) rfl (.int p2) rfl (.int s.2) rfl w5 hw5
  · refine gBrF (p := 10 ≤ s.2) (y := 166) (is := List.drop 10 mC166) (L := [.ref p0, .int p1, .int p2, .int s.1, .int s.2, w5]) (st := []) (μ := μ) (t := 67) rfl h15 ?_
    refine mGo.steps 4 (c' := (166, List.drop 14 mC166, [.ref p0, .int p1, .int p2, .int s.1, .int s.2, w5], [.int p2, .int p1, .int s.2, .ref p0], μ)) rfl ?_
    obtain ⟨h4, hr⟩ := mIf hr
    obtain ⟨q5, h6, hr⟩ := mBi hr
    refine gCall (z := 162) (n := 3) (f := 0) (kind := 1) (a := p0) (As := [.int s.2, .int p1, .int p2]) (y := 166) (is := List.drop 15 mC166) (L := [.ref p0, .int p1, .int p2, .int s.1, .int s.2, w5]) (rest := []) (μ := μ) rfl (by decide) (by decide) ⟨rfl, rfl⟩ rfl h4 (Nat.le_of_ble_eq_true rfl) (Nat.le_of_ble_eq_true rfl) (t162 h6) ?_
    rcases mIte hr with ⟨h14, hr⟩ | ⟨h14, hr⟩
    · refine gBrT (p := q5 = 0) (y := 166) (is := List.drop 16 mC166) (L := [.ref p0, .int p1, .int p2, .int s.1, .int s.2, w5]) (st := []) (μ := μ) (t := 61) rfl h14 ?_
      exact t166L7_37 μ p0 p1 p2 s.1 s.2 w5 hw5 hr hC
    · refine gBrF (p := q5 = 0) (y := 166) (is := List.drop 16 mC166) (L := [.ref p0, .int p1, .int p2, .int s.1, .int s.2, w5]) (st := []) (μ := μ) (t := 61) rfl h14 ?_
      refine mGo.steps 5 (c' := (166, List.drop 21 mC166, [.ref p0, .int p1, .int p2, .int s.1, .int s.2, w5], [.int 2, .int s.2, .ref p0, .int p1, .ref p0], μ)) rfl ?_
      obtain ⟨q7, h8, hr⟩ := mBi hr
      refine gCall (z := 159) (n := 2) (f := 0) (kind := 1) (a := p0) (As := [.int s.2, .int 2]) (y := 166) (is := List.drop 22 mC166) (L := [.ref p0, .int p1, .int p2, .int s.1, .int s.2, w5]) (rest := [.int p1, .ref p0]) (μ := μ) rfl (by decide) (by decide) ⟨rfl, rfl⟩ rfl h4 (Nat.le_of_ble_eq_true rfl) (Nat.le_of_ble_eq_true rfl) (t159 h8) ?_
      refine mGo.steps 1 (c' := (166, List.drop 23 mC166, [.ref p0, .int p1, .int p2, .int s.1, .int s.2, w5], [.int p2, .int q7, .int p1, .ref p0], μ)) rfl ?_
      obtain ⟨q9, h10, hr⟩ := mBi hr
      refine gCall (z := 164) (n := 3) (f := 0) (kind := 1) (a := p0) (As := [.int p1, .int q7, .int p2]) (y := 166) (is := List.drop 24 mC166) (L := [.ref p0, .int p1, .int p2, .int s.1, .int s.2, w5]) (rest := []) (μ := μ) rfl (by decide) (by decide) ⟨rfl, rfl⟩ rfl h4 (Nat.le_of_ble_eq_true rfl) (Nat.le_of_ble_eq_true rfl) (t164 h10) ?_
      refine mGo.steps 3 (c' := (166, List.drop 27 mC166, [.ref p0, .int p1, .int p2, .int s.1, .int s.2, .int q9], [.ref p0, .int s.1], μ)) rfl ?_
      refine gGet (is := List.drop 28 mC166) (v := .ref (mP μ p0 0)) h4 rfl ?_
      refine mGo.steps 3 (c' := (166, List.drop 31 mC166, [.ref p0, .int p1, .int p2, .int s.1, .int s.2, .int q9], [.int q9, .int p2, .int s.2, .ref (mP μ p0 0), .int s.1], μ)) rfl ?_
      obtain ⟨q11, h12, hr⟩ := mBi hr
      refine mGo.call (z := 163) (as := [.int s.2, .int p2, .int q9]) (y := 166) (is := List.drop 32 mC166) (L := [.ref p0, .int p1, .int p2, .int s.1, .int s.2, .int q9]) (st := [.ref (mP μ p0 0), .int s.1]) (μ := μ) rfl (t163 h12) ?_
      refine mGo.steps 2 (c' := (166, List.drop 34 mC166, [.ref p0, .int p1, .int p2, .int s.1, .int s.2, .int q9], [.int (q11 + 1), .ref (mP μ p0 0), .int s.1], μ)) rfl ?_
      obtain ⟨h13, hr⟩ := mIf hr
      refine gIald (is := List.drop 35 mC166) h13 ?_
      refine mGo.steps 2 (c' := (166, List.drop 37 mC166, [.ref p0, .int p1, .int p2, .int (s.1 - (mI μ (mP μ p0 0) (Int32.toNatClampNeg (q11 + 1)))), .int s.2, .int q9], [], μ)) rfl ?_
      exact t166L7_37 μ p0 p1 p2 (s.1 - (mI μ (mP μ p0 0) (Int32.toNatClampNeg (q11 + 1)))) s.2 (.int q9) rfl hr hC
theorem t166L7l (μ : mM) (p0 : Nat) (p1 : Int32) (p2 : Int32) {r : Option Value × mM} (n : Nat) (s : Int32 × Int32) (o : (Int32) ⊕ Int32) (hr : mLoop (s166L7 μ p0 p1 p2) n s = some o) (hC : Sum.elim (fun x : Int32 => ∀ (w0 : Value) (hw0 : mNotL w0 = true) (w1 : Value) (hw1 : mNotL w1 = true) (w2 : Value) (hw2 : mNotL w2 = true) (w4 : Value) (hw4 : mNotL w4 = true) (w5 : Value) (hw5 : mNotL w5 = true), mGo mG (166, List.drop 39 mC166, [w0, w1, w2, .int x, w4, w5], [], μ) r) (fun y : Int32 => r = (some (.int y), μ)) o) : ∀ (w5 : Value) (hw5 : mNotL w5 = true), mGo mG (166, List.drop 7 mC166, [.ref p0, .int p1, .int p2, .int s.1, .int s.2, w5], [], μ) r :=
  mLoop_go (Hd := (fun s' : Int32 × Int32 => ∀ (w5 : Value) (hw5 : mNotL w5 = true), mGo mG (166, List.drop 7 mC166, [.ref p0, .int p1, .int p2, .int s'.1, .int s'.2, w5], [], μ) r)) (fun s o hb hC => t166L7 μ p0 p1 p2 s o hb hC) n s o hr hC
def s166 (μ : mM) (a0 : Nat) (a1 : Int32) (a2 : Int32) : Option Int32 :=
  if (mS μ a0).1 = 9 then (s158 μ a0 a1 a2).bind fun q2 => (mLoop (s166L7 μ a0 a1 a2) 1000 (q2, 0)).bind fun o16 => Sum.elim (fun x17 => some x17) (fun y18 => some y18) o16 else none
set_option maxRecDepth 20000 in
theorem t166 {μ : mM} {a0 : Nat} {a1 : Int32} {a2 : Int32} {o : Int32} (hr : s166 μ a0 a1 a2 = some o) : mEv mG 166 [.ref a0, .int a1, .int a2] μ (some (.int o)) (μ) := by
  obtain ⟨r, hC⟩ : ∃ r : Option Value × mM, r = (some (.int o), μ) := ⟨_, rfl⟩
  show mGo mG (166, List.drop 0 mC166, [.ref a0, .int a1, .int a2, .retAddr 0, .retAddr 0, .retAddr 0], [], μ) (some (.int o), μ)
  rw [← hC]
  unfold s166 at hr
  refine mGo.steps 3 (c' := (166, List.drop 3 mC166, [.ref a0, .int a1, .int a2, .retAddr 0, .retAddr 0, .retAddr 0], [.int a2, .int a1, .ref a0], μ)) rfl ?_
  obtain ⟨h1, hr⟩ := mIf hr
  obtain ⟨q2, h3, hr⟩ := mBi hr
  refine gCall (z := 158) (n := 2) (f := 0) (kind := 1) (a := a0) (As := [.int a1, .int a2]) (y := 166) (is := List.drop 4 mC166) (L := [.ref a0, .int a1, .int a2, .retAddr 0, .retAddr 0, .retAddr 0]) (rest := []) (μ := μ) rfl (by decide) (by decide) ⟨rfl, rfl⟩ rfl h1 (Nat.le_of_ble_eq_true rfl) (Nat.le_of_ble_eq_true rfl) (t158 h3) ?_
  refine mGo.steps 3 (c' := (166, List.drop 7 mC166, [.ref a0, .int a1, .int a2, .int q2, .int 0, .retAddr 0], [], μ)) rfl ?_
  obtain ⟨o16, h19, hr⟩ := mBi hr
  refine t166L7l μ a0 a1 a2 1000 (q2, 0) o16 h19 ?_ (.retAddr 0) rfl
  cases o16 with
  | inl x17 =>
    show ∀ (w0 : Value) (hw0 : mNotL w0 = true) (w1 : Value) (hw1 : mNotL w1 = true) (w2 : Value) (hw2 : mNotL w2 = true) (w4 : Value) (hw4 : mNotL w4 = true) (w5 : Value) (hw5 : mNotL w5 = true), mGo mG (166, List.drop 39 mC166, [w0, w1, w2, .int x17, w4, w5], [], μ) r
    intro w0 hw0 w1 hw1 w2 hw2 w4 hw4 w5 hw5
    replace hr : (_) = some _ := hr
    refine mGo.steps 1 (c' := (166, List.drop 40 mC166, [w0, w1, w2, .int x17, w4, w5], [.int x17], μ)) rfl ?_
    obtain rfl := Option.some.inj hr
    rw [show r = _ from hC]
    exact gIret rfl
  | inr y18 =>
    obtain rfl := Option.some.inj hr
    exact hC

/-! 167: TunnelFabricModel.numberFor(II)I -/
def s167L4_34 (μ : mM) (p0 : Nat) (p1 : Int32) (p2 : Int32) (v3 : Int32) (v4 : Int32) : Option ((Int32 × Int32) ⊕ ((Int32) ⊕ Int32)) :=
  some (.inl (v3, v4 + 1))
set_option maxRecDepth 20000 in
theorem t167L4_34 (μ : mM) (p0 : Nat) (p1 : Int32) (p2 : Int32) (v3 : Int32) (v4 : Int32) (w5 : Value) (hw5 : mNotL w5 = true) {o : ((Int32 × Int32) ⊕ ((Int32) ⊕ Int32))} {r : Option Value × mM} (hr : s167L4_34 μ p0 p1 p2 v3 v4 = some o) (hC : Sum.elim (fun s' : Int32 × Int32 => ∀ (w5 : Value) (hw5 : mNotL w5 = true), mGo mG (167, List.drop 4 mC167, [.ref p0, .int p1, .int p2, .int s'.1, .int s'.2, w5], [], μ) r) (Sum.elim (fun x : Int32 => ∀ (w0 : Value) (hw0 : mNotL w0 = true) (w1 : Value) (hw1 : mNotL w1 = true) (w2 : Value) (hw2 : mNotL w2 = true) (w4 : Value) (hw4 : mNotL w4 = true) (w5 : Value) (hw5 : mNotL w5 = true), mGo mG (167, List.drop 36 mC167, [w0, w1, w2, .int x, w4, w5], [], μ) r) (fun y : Int32 => r = (some (.int y), μ))) o) : mGo mG (167, List.drop 34 mC167, [.ref p0, .int p1, .int p2, .int v3, .int v4, w5], [], μ) r := by
  unfold s167L4_34 at hr
  refine mGo.steps 2 (c' := (167, List.drop 4 mC167, [.ref p0, .int p1, .int p2, .int v3, .int (v4 + 1), w5], [], μ)) rfl ?_
  obtain rfl := Option.some.inj hr
  exact hC w5 hw5
def s167L4 (μ : mM) (p0 : Nat) (p1 : Int32) (p2 : Int32) (s : Int32 × Int32) : Option ((Int32 × Int32) ⊕ ((Int32) ⊕ Int32)) :=
  if 10 ≤ s.2 then (some (.inr (.inl s.1))) else (if (mS μ p0).1 = 9 then (s162 μ p0 s.2 p1 p2).bind fun q2 => if q2 = 0 then (s167L4_34 μ p0 p1 p2 s.1 s.2) else ((s159 μ p0 s.2 2).bind fun q4 => (s164 μ p0 p1 q4 p2).bind fun q6 => (s163 μ s.2 p2 q6).bind fun q8 => if (mS μ (mP μ p0 0)).1 = 10 ∧ mInb q8 (mS μ (mP μ p0 0)).2 then s167L4_34 μ p0 p1 p2 (s.1 ||| (1 <<< ((mI μ (mP μ p0 0) (Int32.toNatClampNeg q8)) &&& 31))) s.2 else none) else none)
set_option maxRecDepth 20000 in
theorem t167L4 (μ : mM) (p0 : Nat) (p1 : Int32) (p2 : Int32) {r : Option Value × mM} (s : Int32 × Int32) (o : ((Int32 × Int32) ⊕ ((Int32) ⊕ Int32))) (hr : s167L4 μ p0 p1 p2 s = some o) (hC : Sum.elim (fun s' : Int32 × Int32 => ∀ (w5 : Value) (hw5 : mNotL w5 = true), mGo mG (167, List.drop 4 mC167, [.ref p0, .int p1, .int p2, .int s'.1, .int s'.2, w5], [], μ) r) (Sum.elim (fun x : Int32 => ∀ (w0 : Value) (hw0 : mNotL w0 = true) (w1 : Value) (hw1 : mNotL w1 = true) (w2 : Value) (hw2 : mNotL w2 = true) (w4 : Value) (hw4 : mNotL w4 = true) (w5 : Value) (hw5 : mNotL w5 = true), mGo mG (167, List.drop 36 mC167, [w0, w1, w2, .int x, w4, w5], [], μ) r) (fun y : Int32 => r = (some (.int y), μ))) o) : ∀ (w5 : Value) (hw5 : mNotL w5 = true), mGo mG (167, List.drop 4 mC167, [.ref p0, .int p1, .int p2, .int s.1, .int s.2, w5], [], μ) r := by
  intro w5 hw5
  unfold s167L4 at hr
  refine mGo.steps 2 (c' := (167, List.drop 6 mC167, [.ref p0, .int p1, .int p2, .int s.1, .int s.2, w5], [.int 10, .int s.2], μ)) rfl ?_
  rcases mIte hr with ⟨h12, hr⟩ | ⟨h12, hr⟩
  · refine gBrT (p := 10 ≤ s.2) (y := 167) (is := List.drop 7 mC167) (L := [.ref p0, .int p1, .int p2, .int s.1, .int s.2, w5]) (st := []) (μ := μ) (t := 62) rfl h12 ?_
    obtain rfl := Option.some.inj hr
    exact hC (.ref p0) rfl (.int p1) rfl (.int p2) rfl (.int s.2) rfl w5 hw5
  · refine gBrF (p := 10 ≤ s.2) (y := 167) (is := List.drop 7 mC167) (L := [.ref p0, .int p1, .int p2, .int s.1, .int s.2, w5]) (st := []) (μ := μ) (t := 62) rfl h12 ?_
    refine mGo.steps 4 (c' := (167, List.drop 11 mC167, [.ref p0, .int p1, .int p2, .int s.1, .int s.2, w5], [.int p2, .int p1, .int s.2, .ref p0], μ)) rfl ?_
    obtain ⟨h1, hr⟩ := mIf hr
    obtain ⟨q2, h3, hr⟩ := mBi hr
    refine gCall (z := 162) (n := 3) (f := 0) (kind := 1) (a := p0) (As := [.int s.2, .int p1, .int p2]) (y := 167) (is := List.drop 12 mC167) (L := [.ref p0, .int p1, .int p2, .int s.1, .int s.2, w5]) (rest := []) (μ := μ) rfl (by decide) (by decide) ⟨rfl, rfl⟩ rfl h1 (Nat.le_of_ble_eq_true rfl) (Nat.le_of_ble_eq_true rfl) (t162 h3) ?_
    rcases mIte hr with ⟨h11, hr⟩ | ⟨h11, hr⟩
    · refine gBrT (p := q2 = 0) (y := 167) (is := List.drop 13 mC167) (L := [.ref p0, .int p1, .int p2, .int s.1, .int s.2, w5]) (st := []) (μ := μ) (t := 56) rfl h11 ?_
      exact t167L4_34 μ p0 p1 p2 s.1 s.2 w5 hw5 hr hC
    · refine gBrF (p := q2 = 0) (y := 167) (is := List.drop 13 mC167) (L := [.ref p0, .int p1, .int p2, .int s.1, .int s.2, w5]) (st := []) (μ := μ) (t := 56) rfl h11 ?_
      refine mGo.steps 5 (c' := (167, List.drop 18 mC167, [.ref p0, .int p1, .int p2, .int s.1, .int s.2, w5], [.int 2, .int s.2, .ref p0, .int p1, .ref p0], μ)) rfl ?_
      obtain ⟨q4, h5, hr⟩ := mBi hr
      refine gCall (z := 159) (n := 2) (f := 0) (kind := 1) (a := p0) (As := [.int s.2, .int 2]) (y := 167) (is := List.drop 19 mC167) (L := [.ref p0, .int p1, .int p2, .int s.1, .int s.2, w5]) (rest := [.int p1, .ref p0]) (μ := μ) rfl (by decide) (by decide) ⟨rfl, rfl⟩ rfl h1 (Nat.le_of_ble_eq_true rfl) (Nat.le_of_ble_eq_true rfl) (t159 h5) ?_
      refine mGo.steps 1 (c' := (167, List.drop 20 mC167, [.ref p0, .int p1, .int p2, .int s.1, .int s.2, w5], [.int p2, .int q4, .int p1, .ref p0], μ)) rfl ?_
      obtain ⟨q6, h7, hr⟩ := mBi hr
      refine gCall (z := 164) (n := 3) (f := 0) (kind := 1) (a := p0) (As := [.int p1, .int q4, .int p2]) (y := 167) (is := List.drop 21 mC167) (L := [.ref p0, .int p1, .int p2, .int s.1, .int s.2, w5]) (rest := []) (μ := μ) rfl (by decide) (by decide) ⟨rfl, rfl⟩ rfl h1 (Nat.le_of_ble_eq_true rfl) (Nat.le_of_ble_eq_true rfl) (t164 h7) ?_
      refine mGo.steps 4 (c' := (167, List.drop 25 mC167, [.ref p0, .int p1, .int p2, .int s.1, .int s.2, .int q6], [.ref p0, .int 1, .int s.1], μ)) rfl ?_
      refine gGet (is := List.drop 26 mC167) (v := .ref (mP μ p0 0)) h1 rfl ?_
      refine mGo.steps 3 (c' := (167, List.drop 29 mC167, [.ref p0, .int p1, .int p2, .int s.1, .int s.2, .int q6], [.int q6, .int p2, .int s.2, .ref (mP μ p0 0), .int 1, .int s.1], μ)) rfl ?_
      obtain ⟨q8, h9, hr⟩ := mBi hr
      refine mGo.call (z := 163) (as := [.int s.2, .int p2, .int q6]) (y := 167) (is := List.drop 30 mC167) (L := [.ref p0, .int p1, .int p2, .int s.1, .int s.2, .int q6]) (st := [.ref (mP μ p0 0), .int 1, .int s.1]) (μ := μ) rfl (t163 h9) ?_
      obtain ⟨h10, hr⟩ := mIf hr
      refine gIald (is := List.drop 31 mC167) h10 ?_
      refine mGo.steps 3 (c' := (167, List.drop 34 mC167, [.ref p0, .int p1, .int p2, .int (s.1 ||| (1 <<< ((mI μ (mP μ p0 0) (Int32.toNatClampNeg q8)) &&& 31))), .int s.2, .int q6], [], μ)) rfl ?_
      exact t167L4_34 μ p0 p1 p2 (s.1 ||| (1 <<< ((mI μ (mP μ p0 0) (Int32.toNatClampNeg q8)) &&& 31))) s.2 (.int q6) rfl hr hC
theorem t167L4l (μ : mM) (p0 : Nat) (p1 : Int32) (p2 : Int32) {r : Option Value × mM} (n : Nat) (s : Int32 × Int32) (o : (Int32) ⊕ Int32) (hr : mLoop (s167L4 μ p0 p1 p2) n s = some o) (hC : Sum.elim (fun x : Int32 => ∀ (w0 : Value) (hw0 : mNotL w0 = true) (w1 : Value) (hw1 : mNotL w1 = true) (w2 : Value) (hw2 : mNotL w2 = true) (w4 : Value) (hw4 : mNotL w4 = true) (w5 : Value) (hw5 : mNotL w5 = true), mGo mG (167, List.drop 36 mC167, [w0, w1, w2, .int x, w4, w5], [], μ) r) (fun y : Int32 => r = (some (.int y), μ)) o) : ∀ (w5 : Value) (hw5 : mNotL w5 = true), mGo mG (167, List.drop 4 mC167, [.ref p0, .int p1, .int p2, .int s.1, .int s.2, w5], [], μ) r :=
  mLoop_go (Hd := (fun s' : Int32 × Int32 => ∀ (w5 : Value) (hw5 : mNotL w5 = true), mGo mG (167, List.drop 4 mC167, [.ref p0, .int p1, .int p2, .int s'.1, .int s'.2, w5], [], μ) r)) (fun s o hb hC => t167L4 μ p0 p1 p2 s o hb hC) n s o hr hC
def s167L38 (μ : mM) (p3 : Int32) (s : Int32) : Option ((Int32) ⊕ ((Unit) ⊕ Int32)) :=
  if 16 ≤ s then (some (.inr (.inl ()))) else (if ¬ ((p3 >>> (s &&& 31)) &&& 1) = 0 then (some (.inl (s + 1))) else (some (.inr (.inr s))))
set_option maxRecDepth 20000 in
theorem t167L38 (μ : mM) (p3 : Int32) {r : Option Value × mM} (s : Int32) (o : ((Int32) ⊕ ((Unit) ⊕ Int32))) (hr : s167L38 μ p3 s = some o) (hC : Sum.elim (fun s' : Int32 => ∀ (w0 : Value) (hw0 : mNotL w0 = true) (w1 : Value) (hw1 : mNotL w1 = true) (w2 : Value) (hw2 : mNotL w2 = true) (w5 : Value) (hw5 : mNotL w5 = true), mGo mG (167, List.drop 38 mC167, [w0, w1, w2, .int p3, .int s', w5], [], μ) r) (Sum.elim (fun x : Unit => ∀ (w0 : Value) (hw0 : mNotL w0 = true) (w1 : Value) (hw1 : mNotL w1 = true) (w2 : Value) (hw2 : mNotL w2 = true) (w3 : Value) (hw3 : mNotL w3 = true) (w4 : Value) (hw4 : mNotL w4 = true) (w5 : Value) (hw5 : mNotL w5 = true), mGo mG (167, List.drop 51 mC167, [w0, w1, w2, w3, w4, w5], [], μ) r) (fun y : Int32 => r = (some (.int y), μ))) o) : ∀ (w0 : Value) (hw0 : mNotL w0 = true) (w1 : Value) (hw1 : mNotL w1 = true) (w2 : Value) (hw2 : mNotL w2 = true) (w5 : Value) (hw5 : mNotL w5 = true), mGo mG (167, List.drop 38 mC167, [w0, w1, w2, .int p3, .int s, w5], [], μ) r := by
  intro w0 hw0 w1 hw1 w2 hw2 w5 hw5
  unfold s167L38 at hr
  refine mGo.steps 2 (c' := (167, List.drop 40 mC167, [w0, w1, w2, .int p3, .int s, w5], [.int 16, .int s], μ)) rfl ?_
  rcases mIte hr with ⟨h18, hr⟩ | ⟨h18, hr⟩
  · refine gBrT (p := 16 ≤ s) (y := 167) (is := List.drop 41 mC167) (L := [w0, w1, w2, .int p3, .int s, w5]) (st := []) (μ := μ) (t := 91) rfl h18 ?_
    obtain rfl := Option.some.inj hr
    exact hC w0 hw0 w1 hw1 w2 hw2 (.int p3) rfl (.int s) rfl w5 hw5
  · refine gBrF (p := 16 ≤ s) (y := 167) (is := List.drop 41 mC167) (L := [w0, w1, w2, .int p3, .int s, w5]) (st := []) (μ := μ) (t := 91) rfl h18 ?_
    refine mGo.steps 5 (c' := (167, List.drop 46 mC167, [w0, w1, w2, .int p3, .int s, w5], [.int ((p3 >>> (s &&& 31)) &&& 1)], μ)) rfl ?_
    rcases mIte hr with ⟨h17, hr⟩ | ⟨h17, hr⟩
    · refine gBrT (p := ¬ ((p3 >>> (s &&& 31)) &&& 1) = 0) (y := 167) (is := List.drop 47 mC167) (L := [w0, w1, w2, .int p3, .int s, w5]) (st := []) (μ := μ) (t := 85) rfl h17 ?_
      refine mGo.steps 2 (c' := (167, List.drop 38 mC167, [w0, w1, w2, .int p3, .int (s + 1), w5], [], μ)) rfl ?_
      obtain rfl := Option.some.inj hr
      exact hC w0 hw0 w1 hw1 w2 hw2 w5 hw5
    · refine gBrF (p := ¬ ((p3 >>> (s &&& 31)) &&& 1) = 0) (y := 167) (is := List.drop 47 mC167) (L := [w0, w1, w2, .int p3, .int s, w5]) (st := []) (μ := μ) (t := 85) rfl h17 ?_
      refine mGo.steps 1 (c' := (167, List.drop 48 mC167, [w0, w1, w2, .int p3, .int s, w5], [.int s], μ)) rfl ?_
      obtain rfl := Option.some.inj hr
      rw [show r = _ from hC]
      exact gIret rfl
theorem t167L38l (μ : mM) (p3 : Int32) {r : Option Value × mM} (n : Nat) (s : Int32) (o : (Unit) ⊕ Int32) (hr : mLoop (s167L38 μ p3) n s = some o) (hC : Sum.elim (fun x : Unit => ∀ (w0 : Value) (hw0 : mNotL w0 = true) (w1 : Value) (hw1 : mNotL w1 = true) (w2 : Value) (hw2 : mNotL w2 = true) (w3 : Value) (hw3 : mNotL w3 = true) (w4 : Value) (hw4 : mNotL w4 = true) (w5 : Value) (hw5 : mNotL w5 = true), mGo mG (167, List.drop 51 mC167, [w0, w1, w2, w3, w4, w5], [], μ) r) (fun y : Int32 => r = (some (.int y), μ)) o) : ∀ (w0 : Value) (hw0 : mNotL w0 = true) (w1 : Value) (hw1 : mNotL w1 = true) (w2 : Value) (hw2 : mNotL w2 = true) (w5 : Value) (hw5 : mNotL w5 = true), mGo mG (167, List.drop 38 mC167, [w0, w1, w2, .int p3, .int s, w5], [], μ) r :=
  mLoop_go (Hd := (fun s' : Int32 => ∀ (w0 : Value) (hw0 : mNotL w0 = true) (w1 : Value) (hw1 : mNotL w1 = true) (w2 : Value) (hw2 : mNotL w2 = true) (w5 : Value) (hw5 : mNotL w5 = true), mGo mG (167, List.drop 38 mC167, [w0, w1, w2, .int p3, .int s', w5], [], μ) r)) (fun s o hb hC => t167L38 μ p3 s o hb hC) n s o hr hC
def s167 (μ : mM) (a0 : Nat) (a1 : Int32) (a2 : Int32) : Option Int32 :=
  (mLoop (s167L4 μ a0 a1 a2) 1000 (0, 0)).bind fun o13 => Sum.elim (fun x14 => (mLoop (s167L38 μ x14) 1000 8).bind fun o19 => Sum.elim (fun x20 => some (-10)) (fun y21 => some y21) o19) (fun y15 => some y15) o13
set_option maxRecDepth 20000 in
theorem t167 {μ : mM} {a0 : Nat} {a1 : Int32} {a2 : Int32} {o : Int32} (hr : s167 μ a0 a1 a2 = some o) : mEv mG 167 [.ref a0, .int a1, .int a2] μ (some (.int o)) (μ) := by
  obtain ⟨r, hC⟩ : ∃ r : Option Value × mM, r = (some (.int o), μ) := ⟨_, rfl⟩
  show mGo mG (167, List.drop 0 mC167, [.ref a0, .int a1, .int a2, .retAddr 0, .retAddr 0, .retAddr 0], [], μ) (some (.int o), μ)
  rw [← hC]
  unfold s167 at hr
  refine mGo.steps 4 (c' := (167, List.drop 4 mC167, [.ref a0, .int a1, .int a2, .int 0, .int 0, .retAddr 0], [], μ)) rfl ?_
  obtain ⟨o13, h16, hr⟩ := mBi hr
  refine t167L4l μ a0 a1 a2 1000 (0, 0) o13 h16 ?_ (.retAddr 0) rfl
  cases o13 with
  | inl x14 =>
    show ∀ (w0 : Value) (hw0 : mNotL w0 = true) (w1 : Value) (hw1 : mNotL w1 = true) (w2 : Value) (hw2 : mNotL w2 = true) (w4 : Value) (hw4 : mNotL w4 = true) (w5 : Value) (hw5 : mNotL w5 = true), mGo mG (167, List.drop 36 mC167, [w0, w1, w2, .int x14, w4, w5], [], μ) r
    intro w0 hw0 w1 hw1 w2 hw2 w4 hw4 w5 hw5
    replace hr : (_) = some _ := hr
    refine mGo.steps 2 (c' := (167, List.drop 38 mC167, [w0, w1, w2, .int x14, .int 8, w5], [], μ)) rfl ?_
    obtain ⟨o19, h22, hr⟩ := mBi hr
    refine t167L38l μ x14 1000 8 o19 h22 ?_ w0 hw0 w1 hw1 w2 hw2 w5 hw5
    cases o19 with
    | inl x20 =>
      show ∀ (w0 : Value) (hw0 : mNotL w0 = true) (w1 : Value) (hw1 : mNotL w1 = true) (w2 : Value) (hw2 : mNotL w2 = true) (w3 : Value) (hw3 : mNotL w3 = true) (w4 : Value) (hw4 : mNotL w4 = true) (w5 : Value) (hw5 : mNotL w5 = true), mGo mG (167, List.drop 51 mC167, [w0, w1, w2, w3, w4, w5], [], μ) r
      intro w0 hw0 w1 hw1 w2 hw2 w3 hw3 w4 hw4 w5 hw5
      replace hr : (_) = some _ := hr
      refine mGo.steps 1 (c' := (167, List.drop 52 mC167, [w0, w1, w2, w3, w4, w5], [.int (-10)], μ)) rfl ?_
      obtain rfl := Option.some.inj hr
      rw [show r = _ from hC]
      exact gIret rfl
    | inr y21 =>
      obtain rfl := Option.some.inj hr
      exact hC
  | inr y15 =>
    obtain rfl := Option.some.inj hr
    exact hC

/-! 168: TunnelFabricModel.reserveOf(I)I -/
def s168L4_25 (μ : mM) (p0 : Nat) (p1 : Int32) (v3 : Int32) (t0 : Int32) (t1 : Int32) : Option ((Int32 × Int32) ⊕ ((Int32) ⊕ Int32)) :=
  some (.inl (t1 + t0, v3 + 1))
set_option maxRecDepth 20000 in
theorem t168L4_25 (μ : mM) (p0 : Nat) (p1 : Int32) (v3 : Int32) (t0 : Int32) (t1 : Int32) (w2 : Value) (hw2 : mNotL w2 = true) {o : ((Int32 × Int32) ⊕ ((Int32) ⊕ Int32))} {r : Option Value × mM} (hr : s168L4_25 μ p0 p1 v3 t0 t1 = some o) (hC : Sum.elim (fun s' : Int32 × Int32 => mGo mG (168, List.drop 4 mC168, [.ref p0, .int p1, .int s'.1, .int s'.2], [], μ) r) (Sum.elim (fun x : Int32 => ∀ (w0 : Value) (hw0 : mNotL w0 = true) (w1 : Value) (hw1 : mNotL w1 = true) (w3 : Value) (hw3 : mNotL w3 = true), mGo mG (168, List.drop 29 mC168, [w0, w1, .int x, w3], [], μ) r) (fun y : Int32 => r = (some (.int y), μ))) o) : mGo mG (168, List.drop 25 mC168, [.ref p0, .int p1, w2, .int v3], [.int t0, .int t1], μ) r := by
  unfold s168L4_25 at hr
  refine mGo.steps 4 (c' := (168, List.drop 4 mC168, [.ref p0, .int p1, .int (t1 + t0), .int (v3 + 1)], [], μ)) rfl ?_
  obtain rfl := Option.some.inj hr
  exact hC
def s168L4_24 (μ : mM) (p0 : Nat) (p1 : Int32) (v3 : Int32) (t0 : Int32) : Option ((Int32 × Int32) ⊕ ((Int32) ⊕ Int32)) :=
  s168L4_25 μ p0 p1 v3 0 t0
set_option maxRecDepth 20000 in
theorem t168L4_24 (μ : mM) (p0 : Nat) (p1 : Int32) (v3 : Int32) (t0 : Int32) (w2 : Value) (hw2 : mNotL w2 = true) {o : ((Int32 × Int32) ⊕ ((Int32) ⊕ Int32))} {r : Option Value × mM} (hr : s168L4_24 μ p0 p1 v3 t0 = some o) (hC : Sum.elim (fun s' : Int32 × Int32 => mGo mG (168, List.drop 4 mC168, [.ref p0, .int p1, .int s'.1, .int s'.2], [], μ) r) (Sum.elim (fun x : Int32 => ∀ (w0 : Value) (hw0 : mNotL w0 = true) (w1 : Value) (hw1 : mNotL w1 = true) (w3 : Value) (hw3 : mNotL w3 = true), mGo mG (168, List.drop 29 mC168, [w0, w1, .int x, w3], [], μ) r) (fun y : Int32 => r = (some (.int y), μ))) o) : mGo mG (168, List.drop 24 mC168, [.ref p0, .int p1, w2, .int v3], [.int t0], μ) r := by
  unfold s168L4_24 at hr
  refine mGo.steps 1 (c' := (168, List.drop 25 mC168, [.ref p0, .int p1, w2, .int v3], [.int 0, .int t0], μ)) rfl ?_
  exact t168L4_25 μ p0 p1 v3 0 t0 w2 hw2 hr hC
def s168L4 (μ : mM) (p0 : Nat) (p1 : Int32) (s : Int32 × Int32) : Option ((Int32 × Int32) ⊕ ((Int32) ⊕ Int32)) :=
  if 10 ≤ s.2 then (some (.inr (.inl s.1))) else (if (mS μ p0).1 = 9 then (s162 μ p0 s.2 p1 0).bind fun q2 => if q2 = 0 then (s168L4_24 μ p0 p1 s.2 s.1) else ((s159 μ p0 s.2 1).bind fun q4 => if ¬ q4 = 0 then (s168L4_24 μ p0 p1 s.2 s.1) else ((s159 μ p0 s.2 4).bind fun q6 => s168L4_25 μ p0 p1 s.2 q6 s.1)) else none)
set_option maxRecDepth 20000 in
theorem t168L4 (μ : mM) (p0 : Nat) (p1 : Int32) {r : Option Value × mM} (s : Int32 × Int32) (o : ((Int32 × Int32) ⊕ ((Int32) ⊕ Int32))) (hr : s168L4 μ p0 p1 s = some o) (hC : Sum.elim (fun s' : Int32 × Int32 => mGo mG (168, List.drop 4 mC168, [.ref p0, .int p1, .int s'.1, .int s'.2], [], μ) r) (Sum.elim (fun x : Int32 => ∀ (w0 : Value) (hw0 : mNotL w0 = true) (w1 : Value) (hw1 : mNotL w1 = true) (w3 : Value) (hw3 : mNotL w3 = true), mGo mG (168, List.drop 29 mC168, [w0, w1, .int x, w3], [], μ) r) (fun y : Int32 => r = (some (.int y), μ))) o) : mGo mG (168, List.drop 4 mC168, [.ref p0, .int p1, .int s.1, .int s.2], [], μ) r := by
  unfold s168L4 at hr
  refine mGo.steps 2 (c' := (168, List.drop 6 mC168, [.ref p0, .int p1, .int s.1, .int s.2], [.int 10, .int s.2], μ)) rfl ?_
  rcases mIte hr with ⟨h10, hr⟩ | ⟨h10, hr⟩
  · refine gBrT (p := 10 ≤ s.2) (y := 168) (is := List.drop 7 mC168) (L := [.ref p0, .int p1, .int s.1, .int s.2]) (st := []) (μ := μ) (t := 48) rfl h10 ?_
    obtain rfl := Option.some.inj hr
    exact hC (.ref p0) rfl (.int p1) rfl (.int s.2) rfl
  · refine gBrF (p := 10 ≤ s.2) (y := 168) (is := List.drop 7 mC168) (L := [.ref p0, .int p1, .int s.1, .int s.2]) (st := []) (μ := μ) (t := 48) rfl h10 ?_
    refine mGo.steps 5 (c' := (168, List.drop 12 mC168, [.ref p0, .int p1, .int s.1, .int s.2], [.int 0, .int p1, .int s.2, .ref p0, .int s.1], μ)) rfl ?_
    obtain ⟨h1, hr⟩ := mIf hr
    obtain ⟨q2, h3, hr⟩ := mBi hr
    refine gCall (z := 162) (n := 3) (f := 0) (kind := 1) (a := p0) (As := [.int s.2, .int p1, .int 0]) (y := 168) (is := List.drop 13 mC168) (L := [.ref p0, .int p1, .int s.1, .int s.2]) (rest := [.int s.1]) (μ := μ) rfl (by decide) (by decide) ⟨rfl, rfl⟩ rfl h1 (Nat.le_of_ble_eq_true rfl) (Nat.le_of_ble_eq_true rfl) (t162 h3) ?_
    rcases mIte hr with ⟨h9, hr⟩ | ⟨h9, hr⟩
    · refine gBrT (p := q2 = 0) (y := 168) (is := List.drop 14 mC168) (L := [.ref p0, .int p1, .int s.1, .int s.2]) (st := [.int s.1]) (μ := μ) (t := 39) rfl h9 ?_
      exact t168L4_24 μ p0 p1 s.2 s.1 (.int s.1) rfl hr hC
    · refine gBrF (p := q2 = 0) (y := 168) (is := List.drop 14 mC168) (L := [.ref p0, .int p1, .int s.1, .int s.2]) (st := [.int s.1]) (μ := μ) (t := 39) rfl h9 ?_
      refine mGo.steps 3 (c' := (168, List.drop 17 mC168, [.ref p0, .int p1, .int s.1, .int s.2], [.int 1, .int s.2, .ref p0, .int s.1], μ)) rfl ?_
      obtain ⟨q4, h5, hr⟩ := mBi hr
      refine gCall (z := 159) (n := 2) (f := 0) (kind := 1) (a := p0) (As := [.int s.2, .int 1]) (y := 168) (is := List.drop 18 mC168) (L := [.ref p0, .int p1, .int s.1, .int s.2]) (rest := [.int s.1]) (μ := μ) rfl (by decide) (by decide) ⟨rfl, rfl⟩ rfl h1 (Nat.le_of_ble_eq_true rfl) (Nat.le_of_ble_eq_true rfl) (t159 h5) ?_
      rcases mIte hr with ⟨h8, hr⟩ | ⟨h8, hr⟩
      · refine gBrT (p := ¬ q4 = 0) (y := 168) (is := List.drop 19 mC168) (L := [.ref p0, .int p1, .int s.1, .int s.2]) (st := [.int s.1]) (μ := μ) (t := 39) rfl h8 ?_
        exact t168L4_24 μ p0 p1 s.2 s.1 (.int s.1) rfl hr hC
      · refine gBrF (p := ¬ q4 = 0) (y := 168) (is := List.drop 19 mC168) (L := [.ref p0, .int p1, .int s.1, .int s.2]) (st := [.int s.1]) (μ := μ) (t := 39) rfl h8 ?_
        refine mGo.steps 3 (c' := (168, List.drop 22 mC168, [.ref p0, .int p1, .int s.1, .int s.2], [.int 4, .int s.2, .ref p0, .int s.1], μ)) rfl ?_
        obtain ⟨q6, h7, hr⟩ := mBi hr
        refine gCall (z := 159) (n := 2) (f := 0) (kind := 1) (a := p0) (As := [.int s.2, .int 4]) (y := 168) (is := List.drop 23 mC168) (L := [.ref p0, .int p1, .int s.1, .int s.2]) (rest := [.int s.1]) (μ := μ) rfl (by decide) (by decide) ⟨rfl, rfl⟩ rfl h1 (Nat.le_of_ble_eq_true rfl) (Nat.le_of_ble_eq_true rfl) (t159 h7) ?_
        refine mGo.steps 1 (c' := (168, List.drop 25 mC168, [.ref p0, .int p1, .int s.1, .int s.2], [.int q6, .int s.1], μ)) rfl ?_
        exact t168L4_25 μ p0 p1 s.2 q6 s.1 (.int s.1) rfl hr hC
theorem t168L4l (μ : mM) (p0 : Nat) (p1 : Int32) {r : Option Value × mM} (n : Nat) (s : Int32 × Int32) (o : (Int32) ⊕ Int32) (hr : mLoop (s168L4 μ p0 p1) n s = some o) (hC : Sum.elim (fun x : Int32 => ∀ (w0 : Value) (hw0 : mNotL w0 = true) (w1 : Value) (hw1 : mNotL w1 = true) (w3 : Value) (hw3 : mNotL w3 = true), mGo mG (168, List.drop 29 mC168, [w0, w1, .int x, w3], [], μ) r) (fun y : Int32 => r = (some (.int y), μ)) o) : mGo mG (168, List.drop 4 mC168, [.ref p0, .int p1, .int s.1, .int s.2], [], μ) r :=
  mLoop_go (Hd := (fun s' : Int32 × Int32 => mGo mG (168, List.drop 4 mC168, [.ref p0, .int p1, .int s'.1, .int s'.2], [], μ) r)) (fun s o hb hC => t168L4 μ p0 p1 s o hb hC) n s o hr hC
def s168 (μ : mM) (a0 : Nat) (a1 : Int32) : Option Int32 :=
  (mLoop (s168L4 μ a0 a1) 1000 (0, 0)).bind fun o11 => Sum.elim (fun x12 => some x12) (fun y13 => some y13) o11
set_option maxRecDepth 20000 in
theorem t168 {μ : mM} {a0 : Nat} {a1 : Int32} {o : Int32} (hr : s168 μ a0 a1 = some o) : mEv mG 168 [.ref a0, .int a1] μ (some (.int o)) (μ) := by
  obtain ⟨r, hC⟩ : ∃ r : Option Value × mM, r = (some (.int o), μ) := ⟨_, rfl⟩
  show mGo mG (168, List.drop 0 mC168, [.ref a0, .int a1, .retAddr 0, .retAddr 0], [], μ) (some (.int o), μ)
  rw [← hC]
  unfold s168 at hr
  refine mGo.steps 4 (c' := (168, List.drop 4 mC168, [.ref a0, .int a1, .int 0, .int 0], [], μ)) rfl ?_
  obtain ⟨o11, h14, hr⟩ := mBi hr
  refine t168L4l μ a0 a1 1000 (0, 0) o11 h14 ?_ 
  cases o11 with
  | inl x12 =>
    show ∀ (w0 : Value) (hw0 : mNotL w0 = true) (w1 : Value) (hw1 : mNotL w1 = true) (w3 : Value) (hw3 : mNotL w3 = true), mGo mG (168, List.drop 29 mC168, [w0, w1, .int x12, w3], [], μ) r
    intro w0 hw0 w1 hw1 w3 hw3
    replace hr : (_) = some _ := hr
    refine mGo.steps 1 (c' := (168, List.drop 30 mC168, [w0, w1, .int x12, w3], [.int x12], μ)) rfl ?_
    obtain rfl := Option.some.inj hr
    rw [show r = _ from hC]
    exact gIret rfl
  | inr y13 =>
    obtain rfl := Option.some.inj hr
    exact hC

/-! 169: TunnelFabricModel.roomOf(I)I -/
def s169L4 (μ : mM) (p0 : Nat) (s : Int32 × Int32) : Option ((Int32 × Int32) ⊕ ((Int32) ⊕ Int32)) :=
  if s.2 ≤ 0 then (some (.inr (.inl s.1))) else (if (mS μ p0).1 = 9 then (s157 μ p0 s.2).bind fun q2 => (s168 μ p0 s.2).bind fun q4 => (s145 μ s.1 (q2 - q4)).bind fun q6 => (s148 μ p0 s.2 3).bind fun q8 => some (.inl (q6, q8)) else none)
set_option maxRecDepth 20000 in
theorem t169L4 (μ : mM) (p0 : Nat) {r : Option Value × mM} (s : Int32 × Int32) (o : ((Int32 × Int32) ⊕ ((Int32) ⊕ Int32))) (hr : s169L4 μ p0 s = some o) (hC : Sum.elim (fun s' : Int32 × Int32 => ∀ (w1 : Value) (hw1 : mNotL w1 = true), mGo mG (169, List.drop 4 mC169, [.ref p0, w1, .int s'.1, .int s'.2], [], μ) r) (Sum.elim (fun x : Int32 => ∀ (w0 : Value) (hw0 : mNotL w0 = true) (w1 : Value) (hw1 : mNotL w1 = true) (w3 : Value) (hw3 : mNotL w3 = true), mGo mG (169, List.drop 22 mC169, [w0, w1, .int x, w3], [], μ) r) (fun y : Int32 => r = (some (.int y), μ))) o) : ∀ (w1 : Value) (hw1 : mNotL w1 = true), mGo mG (169, List.drop 4 mC169, [.ref p0, w1, .int s.1, .int s.2], [], μ) r := by
  intro w1 hw1
  unfold s169L4 at hr
  refine mGo.steps 1 (c' := (169, List.drop 5 mC169, [.ref p0, w1, .int s.1, .int s.2], [.int s.2], μ)) rfl ?_
  rcases mIte hr with ⟨h10, hr⟩ | ⟨h10, hr⟩
  · refine gBrT (p := s.2 ≤ 0) (y := 169) (is := List.drop 6 mC169) (L := [.ref p0, w1, .int s.1, .int s.2]) (st := []) (μ := μ) (t := 36) rfl h10 ?_
    obtain rfl := Option.some.inj hr
    exact hC (.ref p0) rfl w1 hw1 (.int s.2) rfl
  · refine gBrF (p := s.2 ≤ 0) (y := 169) (is := List.drop 6 mC169) (L := [.ref p0, w1, .int s.1, .int s.2]) (st := []) (μ := μ) (t := 36) rfl h10 ?_
    refine mGo.steps 3 (c' := (169, List.drop 9 mC169, [.ref p0, w1, .int s.1, .int s.2], [.int s.2, .ref p0, .int s.1], μ)) rfl ?_
    obtain ⟨h1, hr⟩ := mIf hr
    obtain ⟨q2, h3, hr⟩ := mBi hr
    refine gCall (z := 157) (n := 1) (f := 0) (kind := 1) (a := p0) (As := [.int s.2]) (y := 169) (is := List.drop 10 mC169) (L := [.ref p0, w1, .int s.1, .int s.2]) (rest := [.int s.1]) (μ := μ) rfl (by decide) (by decide) ⟨rfl, rfl⟩ rfl h1 (Nat.le_of_ble_eq_true rfl) (Nat.le_of_ble_eq_true rfl) (t157 h3) ?_
    refine mGo.steps 2 (c' := (169, List.drop 12 mC169, [.ref p0, w1, .int s.1, .int s.2], [.int s.2, .ref p0, .int q2, .int s.1], μ)) rfl ?_
    obtain ⟨q4, h5, hr⟩ := mBi hr
    refine gCall (z := 168) (n := 1) (f := 0) (kind := 1) (a := p0) (As := [.int s.2]) (y := 169) (is := List.drop 13 mC169) (L := [.ref p0, w1, .int s.1, .int s.2]) (rest := [.int q2, .int s.1]) (μ := μ) rfl (by decide) (by decide) ⟨rfl, rfl⟩ rfl h1 (Nat.le_of_ble_eq_true rfl) (Nat.le_of_ble_eq_true rfl) (t168 h5) ?_
    refine mGo.steps 1 (c' := (169, List.drop 14 mC169, [.ref p0, w1, .int s.1, .int s.2], [.int (q2 - q4), .int s.1], μ)) rfl ?_
    obtain ⟨q6, h7, hr⟩ := mBi hr
    refine mGo.call (z := 145) (as := [.int s.1, .int (q2 - q4)]) (y := 169) (is := List.drop 15 mC169) (L := [.ref p0, w1, .int s.1, .int s.2]) (st := []) (μ := μ) rfl (t145 h7) ?_
    refine gSt1 (L := [.ref p0, w1, .int s.1, .int s.2]) (q := 2) (w := .int q6) (is := List.drop 16 mC169) (st := []) (μ := μ) rfl (Nat.le_of_ble_eq_true rfl) hw1 ?_
    refine mGo.steps 3 (c' := (169, List.drop 19 mC169, [.ref p0, w1, .int q6, .int s.2], [.int 3, .int s.2, .ref p0], μ)) rfl ?_
    obtain ⟨q8, h9, hr⟩ := mBi hr
    refine gCall (z := 148) (n := 2) (f := 0) (kind := 1) (a := p0) (As := [.int s.2, .int 3]) (y := 169) (is := List.drop 20 mC169) (L := [.ref p0, w1, .int q6, .int s.2]) (rest := []) (μ := μ) rfl (by decide) (by decide) ⟨rfl, rfl⟩ rfl h1 (Nat.le_of_ble_eq_true rfl) (Nat.le_of_ble_eq_true rfl) (t148 h9) ?_
    refine mGo.steps 2 (c' := (169, List.drop 4 mC169, [.ref p0, w1, .int q6, .int q8], [], μ)) rfl ?_
    obtain rfl := Option.some.inj hr
    exact hC w1 hw1
theorem t169L4l (μ : mM) (p0 : Nat) {r : Option Value × mM} (n : Nat) (s : Int32 × Int32) (o : (Int32) ⊕ Int32) (hr : mLoop (s169L4 μ p0) n s = some o) (hC : Sum.elim (fun x : Int32 => ∀ (w0 : Value) (hw0 : mNotL w0 = true) (w1 : Value) (hw1 : mNotL w1 = true) (w3 : Value) (hw3 : mNotL w3 = true), mGo mG (169, List.drop 22 mC169, [w0, w1, .int x, w3], [], μ) r) (fun y : Int32 => r = (some (.int y), μ)) o) : ∀ (w1 : Value) (hw1 : mNotL w1 = true), mGo mG (169, List.drop 4 mC169, [.ref p0, w1, .int s.1, .int s.2], [], μ) r :=
  mLoop_go (Hd := (fun s' : Int32 × Int32 => ∀ (w1 : Value) (hw1 : mNotL w1 = true), mGo mG (169, List.drop 4 mC169, [.ref p0, w1, .int s'.1, .int s'.2], [], μ) r)) (fun s o hb hC => t169L4 μ p0 s o hb hC) n s o hr hC
def s169 (μ : mM) (a0 : Nat) (a1 : Int32) : Option Int32 :=
  (mLoop (s169L4 μ a0) 1000 (1000, a1)).bind fun o11 => Sum.elim (fun x12 => some x12) (fun y13 => some y13) o11
set_option maxRecDepth 20000 in
theorem t169 {μ : mM} {a0 : Nat} {a1 : Int32} {o : Int32} (hr : s169 μ a0 a1 = some o) : mEv mG 169 [.ref a0, .int a1] μ (some (.int o)) (μ) := by
  obtain ⟨r, hC⟩ : ∃ r : Option Value × mM, r = (some (.int o), μ) := ⟨_, rfl⟩
  show mGo mG (169, List.drop 0 mC169, [.ref a0, .int a1, .retAddr 0, .retAddr 0], [], μ) (some (.int o), μ)
  rw [← hC]
  unfold s169 at hr
  refine mGo.steps 4 (c' := (169, List.drop 4 mC169, [.ref a0, .int a1, .int 1000, .int a1], [], μ)) rfl ?_
  obtain ⟨o11, h14, hr⟩ := mBi hr
  refine t169L4l μ a0 1000 (1000, a1) o11 h14 ?_ (.int a1) rfl
  cases o11 with
  | inl x12 =>
    show ∀ (w0 : Value) (hw0 : mNotL w0 = true) (w1 : Value) (hw1 : mNotL w1 = true) (w3 : Value) (hw3 : mNotL w3 = true), mGo mG (169, List.drop 22 mC169, [w0, w1, .int x12, w3], [], μ) r
    intro w0 hw0 w1 hw1 w3 hw3
    replace hr : (_) = some _ := hr
    refine mGo.steps 1 (c' := (169, List.drop 23 mC169, [w0, w1, .int x12, w3], [.int x12], μ)) rfl ?_
    obtain rfl := Option.some.inj hr
    rw [show r = _ from hC]
    exact gIret rfl
  | inr y13 =>
    obtain rfl := Option.some.inj hr
    exact hC

/-! 170: TunnelFabricModel.nextVideo(I)I -/
def s170L4_45 (μ : mM) (p0 : Nat) (p1 : Int32) (v3 : Int32) (t0 : Int32) : Option ((Int32 × Int32) ⊕ ((Int32) ⊕ Int32)) :=
  some (.inl (t0, v3 + 1))
set_option maxRecDepth 20000 in
theorem t170L4_45 (μ : mM) (p0 : Nat) (p1 : Int32) (v3 : Int32) (t0 : Int32) (w2 : Value) (hw2 : mNotL w2 = true) (w4 : Value) (hw4 : mNotL w4 = true) {o : ((Int32 × Int32) ⊕ ((Int32) ⊕ Int32))} {r : Option Value × mM} (hr : s170L4_45 μ p0 p1 v3 t0 = some o) (hC : Sum.elim (fun s' : Int32 × Int32 => ∀ (w4 : Value) (hw4 : mNotL w4 = true), mGo mG (170, List.drop 4 mC170, [.ref p0, .int p1, .int s'.1, .int s'.2, w4], [], μ) r) (Sum.elim (fun x : Int32 => ∀ (w0 : Value) (hw0 : mNotL w0 = true) (w1 : Value) (hw1 : mNotL w1 = true) (w3 : Value) (hw3 : mNotL w3 = true) (w4 : Value) (hw4 : mNotL w4 = true), mGo mG (170, List.drop 48 mC170, [w0, w1, .int x, w3, w4], [], μ) r) (fun y : Int32 => r = (some (.int y), μ))) o) : mGo mG (170, List.drop 45 mC170, [.ref p0, .int p1, w2, .int v3, w4], [.int t0], μ) r := by
  unfold s170L4_45 at hr
  refine mGo.steps 3 (c' := (170, List.drop 4 mC170, [.ref p0, .int p1, .int t0, .int (v3 + 1), w4], [], μ)) rfl ?_
  obtain rfl := Option.some.inj hr
  exact hC w4 hw4
def s170L4_44 (μ : mM) (p0 : Nat) (p1 : Int32) (v2 : Int32) (v3 : Int32) : Option ((Int32 × Int32) ⊕ ((Int32) ⊕ Int32)) :=
  s170L4_45 μ p0 p1 v3 v2
set_option maxRecDepth 20000 in
theorem t170L4_44 (μ : mM) (p0 : Nat) (p1 : Int32) (v2 : Int32) (v3 : Int32) (w4 : Value) (hw4 : mNotL w4 = true) {o : ((Int32 × Int32) ⊕ ((Int32) ⊕ Int32))} {r : Option Value × mM} (hr : s170L4_44 μ p0 p1 v2 v3 = some o) (hC : Sum.elim (fun s' : Int32 × Int32 => ∀ (w4 : Value) (hw4 : mNotL w4 = true), mGo mG (170, List.drop 4 mC170, [.ref p0, .int p1, .int s'.1, .int s'.2, w4], [], μ) r) (Sum.elim (fun x : Int32 => ∀ (w0 : Value) (hw0 : mNotL w0 = true) (w1 : Value) (hw1 : mNotL w1 = true) (w3 : Value) (hw3 : mNotL w3 = true) (w4 : Value) (hw4 : mNotL w4 = true), mGo mG (170, List.drop 48 mC170, [w0, w1, .int x, w3, w4], [], μ) r) (fun y : Int32 => r = (some (.int y), μ))) o) : mGo mG (170, List.drop 44 mC170, [.ref p0, .int p1, .int v2, .int v3, w4], [], μ) r := by
  unfold s170L4_44 at hr
  refine mGo.steps 1 (c' := (170, List.drop 45 mC170, [.ref p0, .int p1, .int v2, .int v3, w4], [.int v2], μ)) rfl ?_
  exact t170L4_45 μ p0 p1 v3 v2 (.int v2) rfl w4 hw4 hr hC
def s170L4_42 (μ : mM) (p0 : Nat) (p1 : Int32) (v3 : Int32) : Option ((Int32 × Int32) ⊕ ((Int32) ⊕ Int32)) :=
  s170L4_45 μ p0 p1 v3 v3
set_option maxRecDepth 20000 in
theorem t170L4_42 (μ : mM) (p0 : Nat) (p1 : Int32) (v3 : Int32) (w2 : Value) (hw2 : mNotL w2 = true) (w4 : Value) (hw4 : mNotL w4 = true) {o : ((Int32 × Int32) ⊕ ((Int32) ⊕ Int32))} {r : Option Value × mM} (hr : s170L4_42 μ p0 p1 v3 = some o) (hC : Sum.elim (fun s' : Int32 × Int32 => ∀ (w4 : Value) (hw4 : mNotL w4 = true), mGo mG (170, List.drop 4 mC170, [.ref p0, .int p1, .int s'.1, .int s'.2, w4], [], μ) r) (Sum.elim (fun x : Int32 => ∀ (w0 : Value) (hw0 : mNotL w0 = true) (w1 : Value) (hw1 : mNotL w1 = true) (w3 : Value) (hw3 : mNotL w3 = true) (w4 : Value) (hw4 : mNotL w4 = true), mGo mG (170, List.drop 48 mC170, [w0, w1, .int x, w3, w4], [], μ) r) (fun y : Int32 => r = (some (.int y), μ))) o) : mGo mG (170, List.drop 42 mC170, [.ref p0, .int p1, w2, .int v3, w4], [], μ) r := by
  unfold s170L4_42 at hr
  refine mGo.steps 2 (c' := (170, List.drop 45 mC170, [.ref p0, .int p1, w2, .int v3, w4], [.int v3], μ)) rfl ?_
  exact t170L4_45 μ p0 p1 v3 v3 w2 hw2 w4 hw4 hr hC
def s170L4_27 (μ : mM) (p0 : Nat) (p1 : Int32) (v2 : Int32) (v3 : Int32) (t0 : Int32) : Option ((Int32 × Int32) ⊕ ((Int32) ⊕ Int32)) :=
  if t0 = 0 then (s170L4_44 μ p0 p1 v2 v3) else (if v2 = (-10) then (s170L4_42 μ p0 p1 v3) else (if (mS μ p0).1 = 9 then (s159 μ p0 v3 5).bind fun q5 => (s159 μ p0 v2 5).bind fun q7 => if q7 ≤ q5 then (s170L4_44 μ p0 p1 v2 v3) else (s170L4_42 μ p0 p1 v3) else none))
set_option maxRecDepth 20000 in
theorem t170L4_27 (μ : mM) (p0 : Nat) (p1 : Int32) (v2 : Int32) (v3 : Int32) (t0 : Int32) (w4 : Value) (hw4 : mNotL w4 = true) {o : ((Int32 × Int32) ⊕ ((Int32) ⊕ Int32))} {r : Option Value × mM} (hr : s170L4_27 μ p0 p1 v2 v3 t0 = some o) (hC : Sum.elim (fun s' : Int32 × Int32 => ∀ (w4 : Value) (hw4 : mNotL w4 = true), mGo mG (170, List.drop 4 mC170, [.ref p0, .int p1, .int s'.1, .int s'.2, w4], [], μ) r) (Sum.elim (fun x : Int32 => ∀ (w0 : Value) (hw0 : mNotL w0 = true) (w1 : Value) (hw1 : mNotL w1 = true) (w3 : Value) (hw3 : mNotL w3 = true) (w4 : Value) (hw4 : mNotL w4 = true), mGo mG (170, List.drop 48 mC170, [w0, w1, .int x, w3, w4], [], μ) r) (fun y : Int32 => r = (some (.int y), μ))) o) : mGo mG (170, List.drop 27 mC170, [.ref p0, .int p1, .int v2, .int v3, w4], [.int t0], μ) r := by
  unfold s170L4_27 at hr
  refine mGo.steps 2 (c' := (170, List.drop 29 mC170, [.ref p0, .int p1, .int v2, .int v3, .int t0], [.int t0], μ)) rfl ?_
  rcases mIte hr with ⟨h11, hr⟩ | ⟨h11, hr⟩
  · refine gBrT (p := t0 = 0) (y := 170) (is := List.drop 30 mC170) (L := [.ref p0, .int p1, .int v2, .int v3, .int t0]) (st := []) (μ := μ) (t := 77) rfl h11 ?_
    exact t170L4_44 μ p0 p1 v2 v3 (.int t0) rfl hr hC
  · refine gBrF (p := t0 = 0) (y := 170) (is := List.drop 30 mC170) (L := [.ref p0, .int p1, .int v2, .int v3, .int t0]) (st := []) (μ := μ) (t := 77) rfl h11 ?_
    refine mGo.steps 2 (c' := (170, List.drop 32 mC170, [.ref p0, .int p1, .int v2, .int v3, .int t0], [.int (-10), .int v2], μ)) rfl ?_
    rcases mIte hr with ⟨h10, hr⟩ | ⟨h10, hr⟩
    · refine gBrT (p := v2 = (-10)) (y := 170) (is := List.drop 33 mC170) (L := [.ref p0, .int p1, .int v2, .int v3, .int t0]) (st := []) (μ := μ) (t := 73) rfl h10 ?_
      exact t170L4_42 μ p0 p1 v3 (.int v2) rfl (.int t0) rfl hr hC
    · refine gBrF (p := v2 = (-10)) (y := 170) (is := List.drop 33 mC170) (L := [.ref p0, .int p1, .int v2, .int v3, .int t0]) (st := []) (μ := μ) (t := 73) rfl h10 ?_
      refine mGo.steps 3 (c' := (170, List.drop 36 mC170, [.ref p0, .int p1, .int v2, .int v3, .int t0], [.int 5, .int v3, .ref p0], μ)) rfl ?_
      obtain ⟨h4, hr⟩ := mIf hr
      obtain ⟨q5, h6, hr⟩ := mBi hr
      refine gCall (z := 159) (n := 2) (f := 0) (kind := 1) (a := p0) (As := [.int v3, .int 5]) (y := 170) (is := List.drop 37 mC170) (L := [.ref p0, .int p1, .int v2, .int v3, .int t0]) (rest := []) (μ := μ) rfl (by decide) (by decide) ⟨rfl, rfl⟩ rfl h4 (Nat.le_of_ble_eq_true rfl) (Nat.le_of_ble_eq_true rfl) (t159 h6) ?_
      refine mGo.steps 3 (c' := (170, List.drop 40 mC170, [.ref p0, .int p1, .int v2, .int v3, .int t0], [.int 5, .int v2, .ref p0, .int q5], μ)) rfl ?_
      obtain ⟨q7, h8, hr⟩ := mBi hr
      refine gCall (z := 159) (n := 2) (f := 0) (kind := 1) (a := p0) (As := [.int v2, .int 5]) (y := 170) (is := List.drop 41 mC170) (L := [.ref p0, .int p1, .int v2, .int v3, .int t0]) (rest := [.int q5]) (μ := μ) rfl (by decide) (by decide) ⟨rfl, rfl⟩ rfl h4 (Nat.le_of_ble_eq_true rfl) (Nat.le_of_ble_eq_true rfl) (t159 h8) ?_
      rcases mIte hr with ⟨h9, hr⟩ | ⟨h9, hr⟩
      · refine gBrT (p := q7 ≤ q5) (y := 170) (is := List.drop 42 mC170) (L := [.ref p0, .int p1, .int v2, .int v3, .int t0]) (st := []) (μ := μ) (t := 77) rfl h9 ?_
        exact t170L4_44 μ p0 p1 v2 v3 (.int t0) rfl hr hC
      · refine gBrF (p := q7 ≤ q5) (y := 170) (is := List.drop 42 mC170) (L := [.ref p0, .int p1, .int v2, .int v3, .int t0]) (st := []) (μ := μ) (t := 77) rfl h9 ?_
        exact t170L4_42 μ p0 p1 v3 (.int v2) rfl (.int t0) rfl hr hC
def s170L4_26 (μ : mM) (p0 : Nat) (p1 : Int32) (v2 : Int32) (v3 : Int32) : Option ((Int32 × Int32) ⊕ ((Int32) ⊕ Int32)) :=
  s170L4_27 μ p0 p1 v2 v3 0
set_option maxRecDepth 20000 in
theorem t170L4_26 (μ : mM) (p0 : Nat) (p1 : Int32) (v2 : Int32) (v3 : Int32) (w4 : Value) (hw4 : mNotL w4 = true) {o : ((Int32 × Int32) ⊕ ((Int32) ⊕ Int32))} {r : Option Value × mM} (hr : s170L4_26 μ p0 p1 v2 v3 = some o) (hC : Sum.elim (fun s' : Int32 × Int32 => ∀ (w4 : Value) (hw4 : mNotL w4 = true), mGo mG (170, List.drop 4 mC170, [.ref p0, .int p1, .int s'.1, .int s'.2, w4], [], μ) r) (Sum.elim (fun x : Int32 => ∀ (w0 : Value) (hw0 : mNotL w0 = true) (w1 : Value) (hw1 : mNotL w1 = true) (w3 : Value) (hw3 : mNotL w3 = true) (w4 : Value) (hw4 : mNotL w4 = true), mGo mG (170, List.drop 48 mC170, [w0, w1, .int x, w3, w4], [], μ) r) (fun y : Int32 => r = (some (.int y), μ))) o) : mGo mG (170, List.drop 26 mC170, [.ref p0, .int p1, .int v2, .int v3, w4], [], μ) r := by
  unfold s170L4_26 at hr
  refine mGo.steps 1 (c' := (170, List.drop 27 mC170, [.ref p0, .int p1, .int v2, .int v3, w4], [.int 0], μ)) rfl ?_
  exact t170L4_27 μ p0 p1 v2 v3 0 w4 hw4 hr hC
def s170L4 (μ : mM) (p0 : Nat) (p1 : Int32) (s : Int32 × Int32) : Option ((Int32 × Int32) ⊕ ((Int32) ⊕ Int32)) :=
  if 10 ≤ s.2 then (some (.inr (.inl s.1))) else (if (mS μ p0).1 = 9 then (s159 μ p0 s.2 0).bind fun q2 => if ¬ q2 = 1 then (s170L4_26 μ p0 p1 s.1 s.2) else ((s159 μ p0 s.2 1).bind fun q12 => if ¬ q12 = 0 then (s170L4_26 μ p0 p1 s.1 s.2) else ((s159 μ p0 s.2 5).bind fun q14 => if q14 ≤ p1 then (s170L4_26 μ p0 p1 s.1 s.2) else (s170L4_27 μ p0 p1 s.1 s.2 1))) else none)
set_option maxRecDepth 20000 in
theorem t170L4 (μ : mM) (p0 : Nat) (p1 : Int32) {r : Option Value × mM} (s : Int32 × Int32) (o : ((Int32 × Int32) ⊕ ((Int32) ⊕ Int32))) (hr : s170L4 μ p0 p1 s = some o) (hC : Sum.elim (fun s' : Int32 × Int32 => ∀ (w4 : Value) (hw4 : mNotL w4 = true), mGo mG (170, List.drop 4 mC170, [.ref p0, .int p1, .int s'.1, .int s'.2, w4], [], μ) r) (Sum.elim (fun x : Int32 => ∀ (w0 : Value) (hw0 : mNotL w0 = true) (w1 : Value) (hw1 : mNotL w1 = true) (w3 : Value) (hw3 : mNotL w3 = true) (w4 : Value) (hw4 : mNotL w4 = true), mGo mG (170, List.drop 48 mC170, [w0, w1, .int x, w3, w4], [], μ) r) (fun y : Int32 => r = (some (.int y), μ))) o) : ∀ (w4 : Value) (hw4 : mNotL w4 = true), mGo mG (170, List.drop 4 mC170, [.ref p0, .int p1, .int s.1, .int s.2, w4], [], μ) r := by
  intro w4 hw4
  unfold s170L4 at hr
  refine mGo.steps 2 (c' := (170, List.drop 6 mC170, [.ref p0, .int p1, .int s.1, .int s.2, w4], [.int 10, .int s.2], μ)) rfl ?_
  rcases mIte hr with ⟨h19, hr⟩ | ⟨h19, hr⟩
  · refine gBrT (p := 10 ≤ s.2) (y := 170) (is := List.drop 7 mC170) (L := [.ref p0, .int p1, .int s.1, .int s.2, w4]) (st := []) (μ := μ) (t := 85) rfl h19 ?_
    obtain rfl := Option.some.inj hr
    exact hC (.ref p0) rfl (.int p1) rfl (.int s.2) rfl w4 hw4
  · refine gBrF (p := 10 ≤ s.2) (y := 170) (is := List.drop 7 mC170) (L := [.ref p0, .int p1, .int s.1, .int s.2, w4]) (st := []) (μ := μ) (t := 85) rfl h19 ?_
    refine mGo.steps 3 (c' := (170, List.drop 10 mC170, [.ref p0, .int p1, .int s.1, .int s.2, w4], [.int 0, .int s.2, .ref p0], μ)) rfl ?_
    obtain ⟨h1, hr⟩ := mIf hr
    obtain ⟨q2, h3, hr⟩ := mBi hr
    refine gCall (z := 159) (n := 2) (f := 0) (kind := 1) (a := p0) (As := [.int s.2, .int 0]) (y := 170) (is := List.drop 11 mC170) (L := [.ref p0, .int p1, .int s.1, .int s.2, w4]) (rest := []) (μ := μ) rfl (by decide) (by decide) ⟨rfl, rfl⟩ rfl h1 (Nat.le_of_ble_eq_true rfl) (Nat.le_of_ble_eq_true rfl) (t159 h3) ?_
    refine mGo.steps 1 (c' := (170, List.drop 12 mC170, [.ref p0, .int p1, .int s.1, .int s.2, w4], [.int 1, .int q2], μ)) rfl ?_
    rcases mIte hr with ⟨h18, hr⟩ | ⟨h18, hr⟩
    · refine gBrT (p := ¬ q2 = 1) (y := 170) (is := List.drop 13 mC170) (L := [.ref p0, .int p1, .int s.1, .int s.2, w4]) (st := []) (μ := μ) (t := 44) rfl h18 ?_
      exact t170L4_26 μ p0 p1 s.1 s.2 w4 hw4 hr hC
    · refine gBrF (p := ¬ q2 = 1) (y := 170) (is := List.drop 13 mC170) (L := [.ref p0, .int p1, .int s.1, .int s.2, w4]) (st := []) (μ := μ) (t := 44) rfl h18 ?_
      refine mGo.steps 3 (c' := (170, List.drop 16 mC170, [.ref p0, .int p1, .int s.1, .int s.2, w4], [.int 1, .int s.2, .ref p0], μ)) rfl ?_
      obtain ⟨q12, h13, hr⟩ := mBi hr
      refine gCall (z := 159) (n := 2) (f := 0) (kind := 1) (a := p0) (As := [.int s.2, .int 1]) (y := 170) (is := List.drop 17 mC170) (L := [.ref p0, .int p1, .int s.1, .int s.2, w4]) (rest := []) (μ := μ) rfl (by decide) (by decide) ⟨rfl, rfl⟩ rfl h1 (Nat.le_of_ble_eq_true rfl) (Nat.le_of_ble_eq_true rfl) (t159 h13) ?_
      rcases mIte hr with ⟨h17, hr⟩ | ⟨h17, hr⟩
      · refine gBrT (p := ¬ q12 = 0) (y := 170) (is := List.drop 18 mC170) (L := [.ref p0, .int p1, .int s.1, .int s.2, w4]) (st := []) (μ := μ) (t := 44) rfl h17 ?_
        exact t170L4_26 μ p0 p1 s.1 s.2 w4 hw4 hr hC
      · refine gBrF (p := ¬ q12 = 0) (y := 170) (is := List.drop 18 mC170) (L := [.ref p0, .int p1, .int s.1, .int s.2, w4]) (st := []) (μ := μ) (t := 44) rfl h17 ?_
        refine mGo.steps 3 (c' := (170, List.drop 21 mC170, [.ref p0, .int p1, .int s.1, .int s.2, w4], [.int 5, .int s.2, .ref p0], μ)) rfl ?_
        obtain ⟨q14, h15, hr⟩ := mBi hr
        refine gCall (z := 159) (n := 2) (f := 0) (kind := 1) (a := p0) (As := [.int s.2, .int 5]) (y := 170) (is := List.drop 22 mC170) (L := [.ref p0, .int p1, .int s.1, .int s.2, w4]) (rest := []) (μ := μ) rfl (by decide) (by decide) ⟨rfl, rfl⟩ rfl h1 (Nat.le_of_ble_eq_true rfl) (Nat.le_of_ble_eq_true rfl) (t159 h15) ?_
        refine mGo.steps 1 (c' := (170, List.drop 23 mC170, [.ref p0, .int p1, .int s.1, .int s.2, w4], [.int p1, .int q14], μ)) rfl ?_
        rcases mIte hr with ⟨h16, hr⟩ | ⟨h16, hr⟩
        · refine gBrT (p := q14 ≤ p1) (y := 170) (is := List.drop 24 mC170) (L := [.ref p0, .int p1, .int s.1, .int s.2, w4]) (st := []) (μ := μ) (t := 44) rfl h16 ?_
          exact t170L4_26 μ p0 p1 s.1 s.2 w4 hw4 hr hC
        · refine gBrF (p := q14 ≤ p1) (y := 170) (is := List.drop 24 mC170) (L := [.ref p0, .int p1, .int s.1, .int s.2, w4]) (st := []) (μ := μ) (t := 44) rfl h16 ?_
          refine mGo.steps 2 (c' := (170, List.drop 27 mC170, [.ref p0, .int p1, .int s.1, .int s.2, w4], [.int 1], μ)) rfl ?_
          exact t170L4_27 μ p0 p1 s.1 s.2 1 w4 hw4 hr hC
theorem t170L4l (μ : mM) (p0 : Nat) (p1 : Int32) {r : Option Value × mM} (n : Nat) (s : Int32 × Int32) (o : (Int32) ⊕ Int32) (hr : mLoop (s170L4 μ p0 p1) n s = some o) (hC : Sum.elim (fun x : Int32 => ∀ (w0 : Value) (hw0 : mNotL w0 = true) (w1 : Value) (hw1 : mNotL w1 = true) (w3 : Value) (hw3 : mNotL w3 = true) (w4 : Value) (hw4 : mNotL w4 = true), mGo mG (170, List.drop 48 mC170, [w0, w1, .int x, w3, w4], [], μ) r) (fun y : Int32 => r = (some (.int y), μ)) o) : ∀ (w4 : Value) (hw4 : mNotL w4 = true), mGo mG (170, List.drop 4 mC170, [.ref p0, .int p1, .int s.1, .int s.2, w4], [], μ) r :=
  mLoop_go (Hd := (fun s' : Int32 × Int32 => ∀ (w4 : Value) (hw4 : mNotL w4 = true), mGo mG (170, List.drop 4 mC170, [.ref p0, .int p1, .int s'.1, .int s'.2, w4], [], μ) r)) (fun s o hb hC => t170L4 μ p0 p1 s o hb hC) n s o hr hC
def s170 (μ : mM) (a0 : Nat) (a1 : Int32) : Option Int32 :=
  (mLoop (s170L4 μ a0 a1) 1000 ((-10), 0)).bind fun o20 => Sum.elim (fun x21 => some x21) (fun y22 => some y22) o20
set_option maxRecDepth 20000 in
theorem t170 {μ : mM} {a0 : Nat} {a1 : Int32} {o : Int32} (hr : s170 μ a0 a1 = some o) : mEv mG 170 [.ref a0, .int a1] μ (some (.int o)) (μ) := by
  obtain ⟨r, hC⟩ : ∃ r : Option Value × mM, r = (some (.int o), μ) := ⟨_, rfl⟩
  show mGo mG (170, List.drop 0 mC170, [.ref a0, .int a1, .retAddr 0, .retAddr 0, .retAddr 0], [], μ) (some (.int o), μ)
  rw [← hC]
  unfold s170 at hr
  refine mGo.steps 4 (c' := (170, List.drop 4 mC170, [.ref a0, .int a1, .int (-10), .int 0, .retAddr 0], [], μ)) rfl ?_
  obtain ⟨o20, h23, hr⟩ := mBi hr
  refine t170L4l μ a0 a1 1000 ((-10), 0) o20 h23 ?_ (.retAddr 0) rfl
  cases o20 with
  | inl x21 =>
    show ∀ (w0 : Value) (hw0 : mNotL w0 = true) (w1 : Value) (hw1 : mNotL w1 = true) (w3 : Value) (hw3 : mNotL w3 = true) (w4 : Value) (hw4 : mNotL w4 = true), mGo mG (170, List.drop 48 mC170, [w0, w1, .int x21, w3, w4], [], μ) r
    intro w0 hw0 w1 hw1 w3 hw3 w4 hw4
    replace hr : (_) = some _ := hr
    refine mGo.steps 1 (c' := (170, List.drop 49 mC170, [w0, w1, .int x21, w3, w4], [.int x21], μ)) rfl ?_
    obtain rfl := Option.some.inj hr
    rw [show r = _ from hC]
    exact gIret rfl
  | inr y22 =>
    obtain rfl := Option.some.inj hr
    exact hC

/-! 171: TunnelFabricModel.distributes()V -/
def s171L4_38 (p0 : Nat) (μ : mM) (v1 : Int32) : Option ((Int32 × mM) ⊕ ((mM) ⊕ mM)) :=
  if (mS μ p0).1 = 9 then (s159 μ p0 v1 5).bind fun q10 => (s170 μ p0 q10).bind fun q12 => some (.inl (q12, μ)) else none
set_option maxRecDepth 20000 in
theorem t171L4_38 (p0 : Nat) (μ : mM) (v1 : Int32) (w2 : Value) (hw2 : mNotL w2 = true) (w3 : Value) (hw3 : mNotL w3 = true) {o : ((Int32 × mM) ⊕ ((mM) ⊕ mM))} {r : Option Value × mM} (hr : s171L4_38 p0 μ v1 = some o) (hC : Sum.elim (fun s' : Int32 × mM => ∀ (w2 : Value) (hw2 : mNotL w2 = true) (w3 : Value) (hw3 : mNotL w3 = true), mGo mG (171, List.drop 4 mC171, [.ref p0, .int s'.1, w2, w3], [], s'.2) r) (Sum.elim (fun x : mM => ∀ (w0 : Value) (hw0 : mNotL w0 = true) (w1 : Value) (hw1 : mNotL w1 = true) (w2 : Value) (hw2 : mNotL w2 = true) (w3 : Value) (hw3 : mNotL w3 = true), mGo mG (171, List.drop 46 mC171, [w0, w1, w2, w3], [], x) r) (fun y : mM => r = (none, y))) o) : mGo mG (171, List.drop 38 mC171, [.ref p0, .int v1, w2, w3], [], μ) r := by
  unfold s171L4_38 at hr
  refine mGo.steps 4 (c' := (171, List.drop 42 mC171, [.ref p0, .int v1, w2, w3], [.int 5, .int v1, .ref p0, .ref p0], μ)) rfl ?_
  obtain ⟨h9, hr⟩ := mIf hr
  obtain ⟨q10, h11, hr⟩ := mBi hr
  refine gCall (z := 159) (n := 2) (f := 0) (kind := 1) (a := p0) (As := [.int v1, .int 5]) (y := 171) (is := List.drop 43 mC171) (L := [.ref p0, .int v1, w2, w3]) (rest := [.ref p0]) (μ := μ) rfl (by decide) (by decide) ⟨rfl, rfl⟩ rfl h9 (Nat.le_of_ble_eq_true rfl) (Nat.le_of_ble_eq_true rfl) (t159 h11) ?_
  obtain ⟨q12, h13, hr⟩ := mBi hr
  refine gCall (z := 170) (n := 1) (f := 0) (kind := 1) (a := p0) (As := [.int q10]) (y := 171) (is := List.drop 44 mC171) (L := [.ref p0, .int v1, w2, w3]) (rest := []) (μ := μ) rfl (by decide) (by decide) ⟨rfl, rfl⟩ rfl h9 (Nat.le_of_ble_eq_true rfl) (Nat.le_of_ble_eq_true rfl) (t170 h13) ?_
  refine mGo.steps 2 (c' := (171, List.drop 4 mC171, [.ref p0, .int q12, w2, w3], [], μ)) rfl ?_
  obtain rfl := Option.some.inj hr
  exact hC w2 hw2 w3 hw3
def s171L4 (p0 : Nat) (s : Int32 × mM) : Option ((Int32 × mM) ⊕ ((mM) ⊕ mM)) :=
  if s.1 = (-10) then (some (.inr (.inl s.2))) else (if (mS s.2 p0).1 = 9 then (s159 s.2 p0 s.1 3).bind fun q5 => (s159 s.2 p0 s.1 4).bind fun q7 => if (q5 - q7) ≤ 0 then (s171L4_38 p0 s.2 s.1) else ((s159 s.2 p0 s.1 2).bind fun q14 => (s169 s.2 p0 q14).bind fun q16 => (s145 s.2 (q5 - q7) q16).bind fun q18 => (s159 s.2 p0 s.1 4).bind fun q20 => (s160 s.2 p0 s.1 4 (q20 + q18)).bind fun q22 => s171L4_38 p0 q22 s.1) else none)
set_option maxRecDepth 20000 in
theorem t171L4 (p0 : Nat) {r : Option Value × mM} (s : Int32 × mM) (o : ((Int32 × mM) ⊕ ((mM) ⊕ mM))) (hr : s171L4 p0 s = some o) (hC : Sum.elim (fun s' : Int32 × mM => ∀ (w2 : Value) (hw2 : mNotL w2 = true) (w3 : Value) (hw3 : mNotL w3 = true), mGo mG (171, List.drop 4 mC171, [.ref p0, .int s'.1, w2, w3], [], s'.2) r) (Sum.elim (fun x : mM => ∀ (w0 : Value) (hw0 : mNotL w0 = true) (w1 : Value) (hw1 : mNotL w1 = true) (w2 : Value) (hw2 : mNotL w2 = true) (w3 : Value) (hw3 : mNotL w3 = true), mGo mG (171, List.drop 46 mC171, [w0, w1, w2, w3], [], x) r) (fun y : mM => r = (none, y))) o) : ∀ (w2 : Value) (hw2 : mNotL w2 = true) (w3 : Value) (hw3 : mNotL w3 = true), mGo mG (171, List.drop 4 mC171, [.ref p0, .int s.1, w2, w3], [], s.2) r := by
  intro w2 hw2 w3 hw3
  unfold s171L4 at hr
  refine mGo.steps 2 (c' := (171, List.drop 6 mC171, [.ref p0, .int s.1, w2, w3], [.int (-10), .int s.1], s.2)) rfl ?_
  rcases mIte hr with ⟨h25, hr⟩ | ⟨h25, hr⟩
  · refine gBrT (p := s.1 = (-10)) (y := 171) (is := List.drop 7 mC171) (L := [.ref p0, .int s.1, w2, w3]) (st := []) (μ := s.2) (t := 73) rfl h25 ?_
    obtain rfl := Option.some.inj hr
    exact hC (.ref p0) rfl (.int s.1) rfl w2 hw2 w3 hw3
  · refine gBrF (p := s.1 = (-10)) (y := 171) (is := List.drop 7 mC171) (L := [.ref p0, .int s.1, w2, w3]) (st := []) (μ := s.2) (t := 73) rfl h25 ?_
    refine mGo.steps 3 (c' := (171, List.drop 10 mC171, [.ref p0, .int s.1, w2, w3], [.int 3, .int s.1, .ref p0], s.2)) rfl ?_
    obtain ⟨h4, hr⟩ := mIf hr
    obtain ⟨q5, h6, hr⟩ := mBi hr
    refine gCall (z := 159) (n := 2) (f := 0) (kind := 1) (a := p0) (As := [.int s.1, .int 3]) (y := 171) (is := List.drop 11 mC171) (L := [.ref p0, .int s.1, w2, w3]) (rest := []) (μ := s.2) rfl (by decide) (by decide) ⟨rfl, rfl⟩ rfl h4 (Nat.le_of_ble_eq_true rfl) (Nat.le_of_ble_eq_true rfl) (t159 h6) ?_
    refine mGo.steps 3 (c' := (171, List.drop 14 mC171, [.ref p0, .int s.1, w2, w3], [.int 4, .int s.1, .ref p0, .int q5], s.2)) rfl ?_
    obtain ⟨q7, h8, hr⟩ := mBi hr
    refine gCall (z := 159) (n := 2) (f := 0) (kind := 1) (a := p0) (As := [.int s.1, .int 4]) (y := 171) (is := List.drop 15 mC171) (L := [.ref p0, .int s.1, w2, w3]) (rest := [.int q5]) (μ := s.2) rfl (by decide) (by decide) ⟨rfl, rfl⟩ rfl h4 (Nat.le_of_ble_eq_true rfl) (Nat.le_of_ble_eq_true rfl) (t159 h8) ?_
    refine mGo.steps 3 (c' := (171, List.drop 18 mC171, [.ref p0, .int s.1, .int (q5 - q7), w3], [.int (q5 - q7)], s.2)) rfl ?_
    rcases mIte hr with ⟨h24, hr⟩ | ⟨h24, hr⟩
    · refine gBrT (p := (q5 - q7) ≤ 0) (y := 171) (is := List.drop 19 mC171) (L := [.ref p0, .int s.1, .int (q5 - q7), w3]) (st := []) (μ := s.2) (t := 59) rfl h24 ?_
      exact t171L4_38 p0 s.2 s.1 (.int (q5 - q7)) rfl w3 hw3 hr hC
    · refine gBrF (p := (q5 - q7) ≤ 0) (y := 171) (is := List.drop 19 mC171) (L := [.ref p0, .int s.1, .int (q5 - q7), w3]) (st := []) (μ := s.2) (t := 59) rfl h24 ?_
      refine mGo.steps 5 (c' := (171, List.drop 24 mC171, [.ref p0, .int s.1, .int (q5 - q7), w3], [.int 2, .int s.1, .ref p0, .ref p0, .int (q5 - q7)], s.2)) rfl ?_
      obtain ⟨q14, h15, hr⟩ := mBi hr
      refine gCall (z := 159) (n := 2) (f := 0) (kind := 1) (a := p0) (As := [.int s.1, .int 2]) (y := 171) (is := List.drop 25 mC171) (L := [.ref p0, .int s.1, .int (q5 - q7), w3]) (rest := [.ref p0, .int (q5 - q7)]) (μ := s.2) rfl (by decide) (by decide) ⟨rfl, rfl⟩ rfl h4 (Nat.le_of_ble_eq_true rfl) (Nat.le_of_ble_eq_true rfl) (t159 h15) ?_
      obtain ⟨q16, h17, hr⟩ := mBi hr
      refine gCall (z := 169) (n := 1) (f := 0) (kind := 1) (a := p0) (As := [.int q14]) (y := 171) (is := List.drop 26 mC171) (L := [.ref p0, .int s.1, .int (q5 - q7), w3]) (rest := [.int (q5 - q7)]) (μ := s.2) rfl (by decide) (by decide) ⟨rfl, rfl⟩ rfl h4 (Nat.le_of_ble_eq_true rfl) (Nat.le_of_ble_eq_true rfl) (t169 h17) ?_
      obtain ⟨q18, h19, hr⟩ := mBi hr
      refine mGo.call (z := 145) (as := [.int (q5 - q7), .int q16]) (y := 171) (is := List.drop 27 mC171) (L := [.ref p0, .int s.1, .int (q5 - q7), w3]) (st := []) (μ := s.2) rfl (t145 h19) ?_
      refine mGo.steps 7 (c' := (171, List.drop 34 mC171, [.ref p0, .int s.1, .int (q5 - q7), .int q18], [.int 4, .int s.1, .ref p0, .int 4, .int s.1, .ref p0], s.2)) rfl ?_
      obtain ⟨q20, h21, hr⟩ := mBi hr
      refine gCall (z := 159) (n := 2) (f := 0) (kind := 1) (a := p0) (As := [.int s.1, .int 4]) (y := 171) (is := List.drop 35 mC171) (L := [.ref p0, .int s.1, .int (q5 - q7), .int q18]) (rest := [.int 4, .int s.1, .ref p0]) (μ := s.2) rfl (by decide) (by decide) ⟨rfl, rfl⟩ rfl h4 (Nat.le_of_ble_eq_true rfl) (Nat.le_of_ble_eq_true rfl) (t159 h21) ?_
      refine mGo.steps 2 (c' := (171, List.drop 37 mC171, [.ref p0, .int s.1, .int (q5 - q7), .int q18], [.int (q20 + q18), .int 4, .int s.1, .ref p0], s.2)) rfl ?_
      obtain ⟨q22, h23, hr⟩ := mBi hr
      refine gCall (z := 160) (n := 3) (f := 0) (kind := 1) (a := p0) (As := [.int s.1, .int 4, .int (q20 + q18)]) (y := 171) (is := List.drop 38 mC171) (L := [.ref p0, .int s.1, .int (q5 - q7), .int q18]) (rest := []) (μ := s.2) rfl (by decide) (by decide) ⟨rfl, rfl⟩ rfl h4 (Nat.le_of_ble_eq_true rfl) (Nat.le_of_ble_eq_true rfl) (t160 h23) ?_
      exact t171L4_38 p0 q22 s.1 (.int (q5 - q7)) rfl (.int q18) rfl hr hC
theorem t171L4l (p0 : Nat) {r : Option Value × mM} (n : Nat) (s : Int32 × mM) (o : (mM) ⊕ mM) (hr : mLoop (s171L4 p0) n s = some o) (hC : Sum.elim (fun x : mM => ∀ (w0 : Value) (hw0 : mNotL w0 = true) (w1 : Value) (hw1 : mNotL w1 = true) (w2 : Value) (hw2 : mNotL w2 = true) (w3 : Value) (hw3 : mNotL w3 = true), mGo mG (171, List.drop 46 mC171, [w0, w1, w2, w3], [], x) r) (fun y : mM => r = (none, y)) o) : ∀ (w2 : Value) (hw2 : mNotL w2 = true) (w3 : Value) (hw3 : mNotL w3 = true), mGo mG (171, List.drop 4 mC171, [.ref p0, .int s.1, w2, w3], [], s.2) r :=
  mLoop_go (Hd := (fun s' : Int32 × mM => ∀ (w2 : Value) (hw2 : mNotL w2 = true) (w3 : Value) (hw3 : mNotL w3 = true), mGo mG (171, List.drop 4 mC171, [.ref p0, .int s'.1, w2, w3], [], s'.2) r)) (fun s o hb hC => t171L4 p0 s o hb hC) n s o hr hC
def s171 (μ : mM) (a0 : Nat) : Option mM :=
  if (mS μ a0).1 = 9 then (s170 μ a0 (-1)).bind fun q2 => (mLoop (s171L4 a0) 1000 (q2, μ)).bind fun o26 => Sum.elim (fun x27 => some x27) (fun y28 => some y28) o26 else none
set_option maxRecDepth 20000 in
theorem t171 {μ : mM} {a0 : Nat} {o : mM} (hr : s171 μ a0 = some o) : mEv mG 171 [.ref a0] μ (none) (o) := by
  obtain ⟨r, hC⟩ : ∃ r : Option Value × mM, r = (none, o) := ⟨_, rfl⟩
  show mGo mG (171, List.drop 0 mC171, [.ref a0, .retAddr 0, .retAddr 0, .retAddr 0], [], μ) (none, o)
  rw [← hC]
  unfold s171 at hr
  refine mGo.steps 2 (c' := (171, List.drop 2 mC171, [.ref a0, .retAddr 0, .retAddr 0, .retAddr 0], [.int (-1), .ref a0], μ)) rfl ?_
  obtain ⟨h1, hr⟩ := mIf hr
  obtain ⟨q2, h3, hr⟩ := mBi hr
  refine gCall (z := 170) (n := 1) (f := 0) (kind := 1) (a := a0) (As := [.int (-1)]) (y := 171) (is := List.drop 3 mC171) (L := [.ref a0, .retAddr 0, .retAddr 0, .retAddr 0]) (rest := []) (μ := μ) rfl (by decide) (by decide) ⟨rfl, rfl⟩ rfl h1 (Nat.le_of_ble_eq_true rfl) (Nat.le_of_ble_eq_true rfl) (t170 h3) ?_
  refine mGo.steps 1 (c' := (171, List.drop 4 mC171, [.ref a0, .int q2, .retAddr 0, .retAddr 0], [], μ)) rfl ?_
  obtain ⟨o26, h29, hr⟩ := mBi hr
  refine t171L4l a0 1000 (q2, μ) o26 h29 ?_ (.retAddr 0) rfl (.retAddr 0) rfl
  cases o26 with
  | inl x27 =>
    show ∀ (w0 : Value) (hw0 : mNotL w0 = true) (w1 : Value) (hw1 : mNotL w1 = true) (w2 : Value) (hw2 : mNotL w2 = true) (w3 : Value) (hw3 : mNotL w3 = true), mGo mG (171, List.drop 46 mC171, [w0, w1, w2, w3], [], x27) r
    intro w0 hw0 w1 hw1 w2 hw2 w3 hw3
    replace hr : (_) = some _ := hr
    obtain rfl := Option.some.inj hr
    rw [show r = _ from hC]
    exact gVret rfl
  | inr y28 =>
    obtain rfl := Option.some.inj hr
    exact hC

/-! 173: TunnelFabricModel.clears(I)V -/
def s173L2 (p0 : Nat) (p1 : Int32) (s : Int32 × mM) : Option ((Int32 × mM) ⊕ ((mM) ⊕ mM)) :=
  if 4 ≤ s.1 then (some (.inr (.inl s.2))) else (if (mS s.2 p0).1 = 9 then if (mS s.2 (mP s.2 p0 0)).1 = 10 ∧ mInb ((132 + (4 * p1)) + s.1) (mS s.2 (mP s.2 p0 0)).2 then (some (mUI s.2 (mP s.2 p0 0) (Int32.toNatClampNeg ((132 + (4 * p1)) + s.1)) 0)).bind fun μ3 => some (.inl (s.1 + 1, μ3)) else none else none)
set_option maxRecDepth 20000 in
theorem t173L2 (p0 : Nat) (p1 : Int32) {r : Option Value × mM} (s : Int32 × mM) (o : ((Int32 × mM) ⊕ ((mM) ⊕ mM))) (hr : s173L2 p0 p1 s = some o) (hC : Sum.elim (fun s' : Int32 × mM => mGo mG (173, List.drop 2 mC173, [.ref p0, .int p1, .int s'.1], [], s'.2) r) (Sum.elim (fun x : mM => ∀ (w2 : Value) (hw2 : mNotL w2 = true), mGo mG (173, List.drop 18 mC173, [.ref p0, .int p1, w2], [], x) r) (fun y : mM => r = (none, y))) o) : mGo mG (173, List.drop 2 mC173, [.ref p0, .int p1, .int s.1], [], s.2) r := by
  unfold s173L2 at hr
  refine mGo.steps 2 (c' := (173, List.drop 4 mC173, [.ref p0, .int p1, .int s.1], [.int 4, .int s.1], s.2)) rfl ?_
  rcases mIte hr with ⟨h4, hr⟩ | ⟨h4, hr⟩
  · refine gBrT (p := 4 ≤ s.1) (y := 173) (is := List.drop 5 mC173) (L := [.ref p0, .int p1, .int s.1]) (st := []) (μ := s.2) (t := 28) rfl h4 ?_
    obtain rfl := Option.some.inj hr
    exact hC (.int s.1) rfl
  · refine gBrF (p := 4 ≤ s.1) (y := 173) (is := List.drop 5 mC173) (L := [.ref p0, .int p1, .int s.1]) (st := []) (μ := s.2) (t := 28) rfl h4 ?_
    refine mGo.steps 1 (c' := (173, List.drop 6 mC173, [.ref p0, .int p1, .int s.1], [.ref p0], s.2)) rfl ?_
    obtain ⟨h1, hr⟩ := mIf hr
    refine gGet (is := List.drop 7 mC173) (v := .ref (mP s.2 p0 0)) h1 rfl ?_
    refine mGo.steps 8 (c' := (173, List.drop 15 mC173, [.ref p0, .int p1, .int s.1], [.int 0, .int ((132 + (4 * p1)) + s.1), .ref (mP s.2 p0 0)], s.2)) rfl ?_
    obtain ⟨h2, hr⟩ := mIf hr
    replace hr := mBs hr
    refine gIast (is := List.drop 16 mC173) h2 ?_
    let μ3 : mM := mUI s.2 (mP s.2 p0 0) (Int32.toNatClampNeg ((132 + (4 * p1)) + s.1)) 0
    refine mGo.steps 2 (c' := (173, List.drop 2 mC173, [.ref p0, .int p1, .int (s.1 + 1)], [], μ3)) rfl ?_
    obtain rfl := Option.some.inj hr
    exact hC
theorem t173L2l (p0 : Nat) (p1 : Int32) {r : Option Value × mM} (n : Nat) (s : Int32 × mM) (o : (mM) ⊕ mM) (hr : mLoop (s173L2 p0 p1) n s = some o) (hC : Sum.elim (fun x : mM => ∀ (w2 : Value) (hw2 : mNotL w2 = true), mGo mG (173, List.drop 18 mC173, [.ref p0, .int p1, w2], [], x) r) (fun y : mM => r = (none, y)) o) : mGo mG (173, List.drop 2 mC173, [.ref p0, .int p1, .int s.1], [], s.2) r :=
  mLoop_go (Hd := (fun s' : Int32 × mM => mGo mG (173, List.drop 2 mC173, [.ref p0, .int p1, .int s'.1], [], s'.2) r)) (fun s o hb hC => t173L2 p0 p1 s o hb hC) n s o hr hC
def s173L20 (p0 : Nat) (p1 : Int32) (s : Int32 × mM) : Option ((Int32 × mM) ⊕ ((mM) ⊕ mM)) :=
  if 24 ≤ s.1 then (some (.inr (.inl s.2))) else (if (mS s.2 p0).1 = 9 then if (mS s.2 (mP s.2 p0 0)).1 = 10 ∧ mInb ((172 + (24 * p1)) + s.1) (mS s.2 (mP s.2 p0 0)).2 then (some (mUI s.2 (mP s.2 p0 0) (Int32.toNatClampNeg ((172 + (24 * p1)) + s.1)) 0)).bind fun μ11 => some (.inl (s.1 + 1, μ11)) else none else none)
set_option maxRecDepth 20000 in
theorem t173L20 (p0 : Nat) (p1 : Int32) {r : Option Value × mM} (s : Int32 × mM) (o : ((Int32 × mM) ⊕ ((mM) ⊕ mM))) (hr : s173L20 p0 p1 s = some o) (hC : Sum.elim (fun s' : Int32 × mM => mGo mG (173, List.drop 20 mC173, [.ref p0, .int p1, .int s'.1], [], s'.2) r) (Sum.elim (fun x : mM => ∀ (w0 : Value) (hw0 : mNotL w0 = true) (w1 : Value) (hw1 : mNotL w1 = true) (w2 : Value) (hw2 : mNotL w2 = true), mGo mG (173, List.drop 36 mC173, [w0, w1, w2], [], x) r) (fun y : mM => r = (none, y))) o) : mGo mG (173, List.drop 20 mC173, [.ref p0, .int p1, .int s.1], [], s.2) r := by
  unfold s173L20 at hr
  refine mGo.steps 2 (c' := (173, List.drop 22 mC173, [.ref p0, .int p1, .int s.1], [.int 24, .int s.1], s.2)) rfl ?_
  rcases mIte hr with ⟨h12, hr⟩ | ⟨h12, hr⟩
  · refine gBrT (p := 24 ≤ s.1) (y := 173) (is := List.drop 23 mC173) (L := [.ref p0, .int p1, .int s.1]) (st := []) (μ := s.2) (t := 58) rfl h12 ?_
    obtain rfl := Option.some.inj hr
    exact hC (.ref p0) rfl (.int p1) rfl (.int s.1) rfl
  · refine gBrF (p := 24 ≤ s.1) (y := 173) (is := List.drop 23 mC173) (L := [.ref p0, .int p1, .int s.1]) (st := []) (μ := s.2) (t := 58) rfl h12 ?_
    refine mGo.steps 1 (c' := (173, List.drop 24 mC173, [.ref p0, .int p1, .int s.1], [.ref p0], s.2)) rfl ?_
    obtain ⟨h9, hr⟩ := mIf hr
    refine gGet (is := List.drop 25 mC173) (v := .ref (mP s.2 p0 0)) h9 rfl ?_
    refine mGo.steps 8 (c' := (173, List.drop 33 mC173, [.ref p0, .int p1, .int s.1], [.int 0, .int ((172 + (24 * p1)) + s.1), .ref (mP s.2 p0 0)], s.2)) rfl ?_
    obtain ⟨h10, hr⟩ := mIf hr
    replace hr := mBs hr
    refine gIast (is := List.drop 34 mC173) h10 ?_
    let μ11 : mM := mUI s.2 (mP s.2 p0 0) (Int32.toNatClampNeg ((172 + (24 * p1)) + s.1)) 0
    refine mGo.steps 2 (c' := (173, List.drop 20 mC173, [.ref p0, .int p1, .int (s.1 + 1)], [], μ11)) rfl ?_
    obtain rfl := Option.some.inj hr
    exact hC
theorem t173L20l (p0 : Nat) (p1 : Int32) {r : Option Value × mM} (n : Nat) (s : Int32 × mM) (o : (mM) ⊕ mM) (hr : mLoop (s173L20 p0 p1) n s = some o) (hC : Sum.elim (fun x : mM => ∀ (w0 : Value) (hw0 : mNotL w0 = true) (w1 : Value) (hw1 : mNotL w1 = true) (w2 : Value) (hw2 : mNotL w2 = true), mGo mG (173, List.drop 36 mC173, [w0, w1, w2], [], x) r) (fun y : mM => r = (none, y)) o) : mGo mG (173, List.drop 20 mC173, [.ref p0, .int p1, .int s.1], [], s.2) r :=
  mLoop_go (Hd := (fun s' : Int32 × mM => mGo mG (173, List.drop 20 mC173, [.ref p0, .int p1, .int s'.1], [], s'.2) r)) (fun s o hb hC => t173L20 p0 p1 s o hb hC) n s o hr hC
def s173 (μ : mM) (a0 : Nat) (a1 : Int32) : Option mM :=
  (mLoop (s173L2 a0 a1) 1000 (0, μ)).bind fun o5 => Sum.elim (fun x6 => (mLoop (s173L20 a0 a1) 1000 (0, x6)).bind fun o13 => Sum.elim (fun x14 => some x14) (fun y15 => some y15) o13) (fun y7 => some y7) o5
set_option maxRecDepth 20000 in
theorem t173 {μ : mM} {a0 : Nat} {a1 : Int32} {o : mM} (hr : s173 μ a0 a1 = some o) : mEv mG 173 [.ref a0, .int a1] μ (none) (o) := by
  obtain ⟨r, hC⟩ : ∃ r : Option Value × mM, r = (none, o) := ⟨_, rfl⟩
  show mGo mG (173, List.drop 0 mC173, [.ref a0, .int a1, .retAddr 0], [], μ) (none, o)
  rw [← hC]
  unfold s173 at hr
  refine mGo.steps 2 (c' := (173, List.drop 2 mC173, [.ref a0, .int a1, .int 0], [], μ)) rfl ?_
  obtain ⟨o5, h8, hr⟩ := mBi hr
  refine t173L2l a0 a1 1000 (0, μ) o5 h8 ?_ 
  cases o5 with
  | inl x6 =>
    show ∀ (w2 : Value) (hw2 : mNotL w2 = true), mGo mG (173, List.drop 18 mC173, [.ref a0, .int a1, w2], [], x6) r
    intro w2 hw2
    replace hr : (_) = some _ := hr
    refine mGo.steps 2 (c' := (173, List.drop 20 mC173, [.ref a0, .int a1, .int 0], [], x6)) rfl ?_
    obtain ⟨o13, h16, hr⟩ := mBi hr
    refine t173L20l a0 a1 1000 (0, x6) o13 h16 ?_ 
    cases o13 with
    | inl x14 =>
      show ∀ (w0 : Value) (hw0 : mNotL w0 = true) (w1 : Value) (hw1 : mNotL w1 = true) (w2 : Value) (hw2 : mNotL w2 = true), mGo mG (173, List.drop 36 mC173, [w0, w1, w2], [], x14) r
      intro w0 hw0 w1 hw1 w2 hw2
      replace hr : (_) = some _ := hr
      obtain rfl := Option.some.inj hr
      rw [show r = _ from hC]
      exact gVret rfl
    | inr y15 =>
      obtain rfl := Option.some.inj hr
      exact hC
  | inr y7 =>
    obtain rfl := Option.some.inj hr
    exact hC

/-! 172: TunnelFabricModel.shuts(I)I -/
def s172L4L24 (μ : mM) (p0 : Nat) (p1 : Int32) (p3 : Int32) (s : Int32 × Int32) : Option ((Int32 × Int32) ⊕ ((Int32) ⊕ (Int32 × mM))) :=
  if 4 ≤ s.2 then (some (.inr (.inl s.1))) else (if (mS μ p0).1 = 9 then (s163 μ p1 p3 s.2).bind fun q4 => if (mS μ (mP μ p0 0)).1 = 10 ∧ mInb (q4 + 2) (mS μ (mP μ p0 0)).2 then some (.inl (s.1 + (mI μ (mP μ p0 0) (Int32.toNatClampNeg (q4 + 2))), s.2 + 1)) else none else none)
set_option maxRecDepth 20000 in
theorem t172L4L24 (μ : mM) (p0 : Nat) (p1 : Int32) (p3 : Int32) {r : Option Value × mM} (s : Int32 × Int32) (o : ((Int32 × Int32) ⊕ ((Int32) ⊕ (Int32 × mM)))) (hr : s172L4L24 μ p0 p1 p3 s = some o) (hC : Sum.elim (fun s' : Int32 × Int32 => mGo mG (172, List.drop 24 mC172, [.ref p0, .int p1, .int s'.1, .int p3, .int s'.2], [], μ) r) (Sum.elim (fun x : Int32 => ∀ (w4 : Value) (hw4 : mNotL w4 = true), mGo mG (172, List.drop 41 mC172, [.ref p0, .int p1, .int x, .int p3, w4], [], μ) r) (fun y : (Int32 × mM) => r = (some (.int y.1), y.2))) o) : mGo mG (172, List.drop 24 mC172, [.ref p0, .int p1, .int s.1, .int p3, .int s.2], [], μ) r := by
  unfold s172L4L24 at hr
  refine mGo.steps 2 (c' := (172, List.drop 26 mC172, [.ref p0, .int p1, .int s.1, .int p3, .int s.2], [.int 4, .int s.2], μ)) rfl ?_
  rcases mIte hr with ⟨h7, hr⟩ | ⟨h7, hr⟩
  · refine gBrT (p := 4 ≤ s.2) (y := 172) (is := List.drop 27 mC172) (L := [.ref p0, .int p1, .int s.1, .int p3, .int s.2]) (st := []) (μ := μ) (t := 60) rfl h7 ?_
    obtain rfl := Option.some.inj hr
    exact hC (.int s.2) rfl
  · refine gBrF (p := 4 ≤ s.2) (y := 172) (is := List.drop 27 mC172) (L := [.ref p0, .int p1, .int s.1, .int p3, .int s.2]) (st := []) (μ := μ) (t := 60) rfl h7 ?_
    refine mGo.steps 2 (c' := (172, List.drop 29 mC172, [.ref p0, .int p1, .int s.1, .int p3, .int s.2], [.ref p0, .int s.1], μ)) rfl ?_
    obtain ⟨h3, hr⟩ := mIf hr
    refine gGet (is := List.drop 30 mC172) (v := .ref (mP μ p0 0)) h3 rfl ?_
    refine mGo.steps 3 (c' := (172, List.drop 33 mC172, [.ref p0, .int p1, .int s.1, .int p3, .int s.2], [.int s.2, .int p3, .int p1, .ref (mP μ p0 0), .int s.1], μ)) rfl ?_
    obtain ⟨q4, h5, hr⟩ := mBi hr
    refine mGo.call (z := 163) (as := [.int p1, .int p3, .int s.2]) (y := 172) (is := List.drop 34 mC172) (L := [.ref p0, .int p1, .int s.1, .int p3, .int s.2]) (st := [.ref (mP μ p0 0), .int s.1]) (μ := μ) rfl (t163 h5) ?_
    refine mGo.steps 2 (c' := (172, List.drop 36 mC172, [.ref p0, .int p1, .int s.1, .int p3, .int s.2], [.int (q4 + 2), .ref (mP μ p0 0), .int s.1], μ)) rfl ?_
    obtain ⟨h6, hr⟩ := mIf hr
    refine gIald (is := List.drop 37 mC172) h6 ?_
    refine mGo.steps 4 (c' := (172, List.drop 24 mC172, [.ref p0, .int p1, .int (s.1 + (mI μ (mP μ p0 0) (Int32.toNatClampNeg (q4 + 2)))), .int p3, .int (s.2 + 1)], [], μ)) rfl ?_
    obtain rfl := Option.some.inj hr
    exact hC
theorem t172L4L24l (μ : mM) (p0 : Nat) (p1 : Int32) (p3 : Int32) {r : Option Value × mM} (n : Nat) (s : Int32 × Int32) (o : (Int32) ⊕ (Int32 × mM)) (hr : mLoop (s172L4L24 μ p0 p1 p3) n s = some o) (hC : Sum.elim (fun x : Int32 => ∀ (w4 : Value) (hw4 : mNotL w4 = true), mGo mG (172, List.drop 41 mC172, [.ref p0, .int p1, .int x, .int p3, w4], [], μ) r) (fun y : (Int32 × mM) => r = (some (.int y.1), y.2)) o) : mGo mG (172, List.drop 24 mC172, [.ref p0, .int p1, .int s.1, .int p3, .int s.2], [], μ) r :=
  mLoop_go (Hd := (fun s' : Int32 × Int32 => mGo mG (172, List.drop 24 mC172, [.ref p0, .int p1, .int s'.1, .int p3, .int s'.2], [], μ) r)) (fun s o hb hC => t172L4L24 μ p0 p1 p3 s o hb hC) n s o hr hC
def s172L4 (μ : mM) (p0 : Nat) (p1 : Int32) (s : Int32 × Int32) : Option ((Int32 × Int32) ⊕ ((Int32) ⊕ (Int32 × mM))) :=
  if 2 ≤ s.2 then (some (.inr (.inl s.1))) else (if (mS μ p0).1 = 9 then if (mS μ (mP μ p0 0)).1 = 10 ∧ mInb ((132 + (4 * p1)) + (2 * s.2)) (mS μ (mP μ p0 0)).2 then (mLoop (s172L4L24 μ p0 p1 s.2) 1000 (s.1 + (mI μ (mP μ p0 0) (Int32.toNatClampNeg ((132 + (4 * p1)) + (2 * s.2)))), 0)).bind fun o8 => Sum.elim (fun x9 => some (.inl (x9, s.2 + 1))) (fun y10 => some (.inr (.inr y10))) o8 else none else none)
set_option maxRecDepth 20000 in
theorem t172L4 (μ : mM) (p0 : Nat) (p1 : Int32) {r : Option Value × mM} (s : Int32 × Int32) (o : ((Int32 × Int32) ⊕ ((Int32) ⊕ (Int32 × mM)))) (hr : s172L4 μ p0 p1 s = some o) (hC : Sum.elim (fun s' : Int32 × Int32 => ∀ (w4 : Value) (hw4 : mNotL w4 = true), mGo mG (172, List.drop 4 mC172, [.ref p0, .int p1, .int s'.1, .int s'.2, w4], [], μ) r) (Sum.elim (fun x : Int32 => ∀ (w3 : Value) (hw3 : mNotL w3 = true) (w4 : Value) (hw4 : mNotL w4 = true), mGo mG (172, List.drop 43 mC172, [.ref p0, .int p1, .int x, w3, w4], [], μ) r) (fun y : (Int32 × mM) => r = (some (.int y.1), y.2))) o) : ∀ (w4 : Value) (hw4 : mNotL w4 = true), mGo mG (172, List.drop 4 mC172, [.ref p0, .int p1, .int s.1, .int s.2, w4], [], μ) r := by
  intro w4 hw4
  unfold s172L4 at hr
  refine mGo.steps 2 (c' := (172, List.drop 6 mC172, [.ref p0, .int p1, .int s.1, .int s.2, w4], [.int 2, .int s.2], μ)) rfl ?_
  rcases mIte hr with ⟨h12, hr⟩ | ⟨h12, hr⟩
  · refine gBrT (p := 2 ≤ s.2) (y := 172) (is := List.drop 7 mC172) (L := [.ref p0, .int p1, .int s.1, .int s.2, w4]) (st := []) (μ := μ) (t := 66) rfl h12 ?_
    obtain rfl := Option.some.inj hr
    exact hC (.int s.2) rfl w4 hw4
  · refine gBrF (p := 2 ≤ s.2) (y := 172) (is := List.drop 7 mC172) (L := [.ref p0, .int p1, .int s.1, .int s.2, w4]) (st := []) (μ := μ) (t := 66) rfl h12 ?_
    refine mGo.steps 2 (c' := (172, List.drop 9 mC172, [.ref p0, .int p1, .int s.1, .int s.2, w4], [.ref p0, .int s.1], μ)) rfl ?_
    obtain ⟨h1, hr⟩ := mIf hr
    refine gGet (is := List.drop 10 mC172) (v := .ref (mP μ p0 0)) h1 rfl ?_
    refine mGo.steps 9 (c' := (172, List.drop 19 mC172, [.ref p0, .int p1, .int s.1, .int s.2, w4], [.int ((132 + (4 * p1)) + (2 * s.2)), .ref (mP μ p0 0), .int s.1], μ)) rfl ?_
    obtain ⟨h2, hr⟩ := mIf hr
    refine gIald (is := List.drop 20 mC172) h2 ?_
    refine mGo.steps 4 (c' := (172, List.drop 24 mC172, [.ref p0, .int p1, .int (s.1 + (mI μ (mP μ p0 0) (Int32.toNatClampNeg ((132 + (4 * p1)) + (2 * s.2))))), .int s.2, .int 0], [], μ)) rfl ?_
    obtain ⟨o8, h11, hr⟩ := mBi hr
    refine t172L4L24l μ p0 p1 s.2 1000 (s.1 + (mI μ (mP μ p0 0) (Int32.toNatClampNeg ((132 + (4 * p1)) + (2 * s.2)))), 0) o8 h11 ?_ 
    cases o8 with
    | inl x9 =>
      show ∀ (w4 : Value) (hw4 : mNotL w4 = true), mGo mG (172, List.drop 41 mC172, [.ref p0, .int p1, .int x9, .int s.2, w4], [], μ) r
      intro w4 hw4
      replace hr : (_) = some _ := hr
      refine mGo.steps 2 (c' := (172, List.drop 4 mC172, [.ref p0, .int p1, .int x9, .int (s.2 + 1), w4], [], μ)) rfl ?_
      obtain rfl := Option.some.inj hr
      exact hC w4 hw4
    | inr y10 =>
      obtain rfl := Option.some.inj hr
      exact hC
theorem t172L4l (μ : mM) (p0 : Nat) (p1 : Int32) {r : Option Value × mM} (n : Nat) (s : Int32 × Int32) (o : (Int32) ⊕ (Int32 × mM)) (hr : mLoop (s172L4 μ p0 p1) n s = some o) (hC : Sum.elim (fun x : Int32 => ∀ (w3 : Value) (hw3 : mNotL w3 = true) (w4 : Value) (hw4 : mNotL w4 = true), mGo mG (172, List.drop 43 mC172, [.ref p0, .int p1, .int x, w3, w4], [], μ) r) (fun y : (Int32 × mM) => r = (some (.int y.1), y.2)) o) : ∀ (w4 : Value) (hw4 : mNotL w4 = true), mGo mG (172, List.drop 4 mC172, [.ref p0, .int p1, .int s.1, .int s.2, w4], [], μ) r :=
  mLoop_go (Hd := (fun s' : Int32 × Int32 => ∀ (w4 : Value) (hw4 : mNotL w4 = true), mGo mG (172, List.drop 4 mC172, [.ref p0, .int p1, .int s'.1, .int s'.2, w4], [], μ) r)) (fun s o hb hC => t172L4 μ p0 p1 s o hb hC) n s o hr hC
def s172 (μ : mM) (a0 : Nat) (a1 : Int32) : Option (Int32 × mM) :=
  (mLoop (s172L4 μ a0 a1) 1000 (0, 0)).bind fun o13 => Sum.elim (fun x14 => if (mS μ a0).1 = 9 then (s160 μ a0 a1 0 0).bind fun q18 => if (mS q18 a0).1 = 9 then (s173 q18 a0 a1).bind fun q21 => if (mS q21 a0).1 = 9 then if (mS q21 (mP q21 a0 0)).1 = 10 ∧ mInb 430 (mS q21 (mP q21 a0 0)).2 then (some (mUI q21 (mP q21 a0 0) (Int32.toNatClampNeg 430) ((mI q21 (mP q21 a0 0) (Int32.toNatClampNeg 430)) + x14))).bind fun μ25 => some (x14, μ25) else none else none else none else none) (fun y15 => some y15) o13
set_option maxRecDepth 20000 in
theorem t172 {μ : mM} {a0 : Nat} {a1 : Int32} {o : (Int32 × mM)} (hr : s172 μ a0 a1 = some o) : mEv mG 172 [.ref a0, .int a1] μ (some (.int o.1)) (o.2) := by
  obtain ⟨r, hC⟩ : ∃ r : Option Value × mM, r = (some (.int o.1), o.2) := ⟨_, rfl⟩
  show mGo mG (172, List.drop 0 mC172, [.ref a0, .int a1, .retAddr 0, .retAddr 0, .retAddr 0], [], μ) (some (.int o.1), o.2)
  rw [← hC]
  unfold s172 at hr
  refine mGo.steps 4 (c' := (172, List.drop 4 mC172, [.ref a0, .int a1, .int 0, .int 0, .retAddr 0], [], μ)) rfl ?_
  obtain ⟨o13, h16, hr⟩ := mBi hr
  refine t172L4l μ a0 a1 1000 (0, 0) o13 h16 ?_ (.retAddr 0) rfl
  cases o13 with
  | inl x14 =>
    show ∀ (w3 : Value) (hw3 : mNotL w3 = true) (w4 : Value) (hw4 : mNotL w4 = true), mGo mG (172, List.drop 43 mC172, [.ref a0, .int a1, .int x14, w3, w4], [], μ) r
    intro w3 hw3 w4 hw4
    replace hr : (_) = some _ := hr
    refine mGo.steps 4 (c' := (172, List.drop 47 mC172, [.ref a0, .int a1, .int x14, w3, w4], [.int 0, .int 0, .int a1, .ref a0], μ)) rfl ?_
    obtain ⟨h17, hr⟩ := mIf hr
    obtain ⟨q18, h19, hr⟩ := mBi hr
    refine gCall (z := 160) (n := 3) (f := 0) (kind := 1) (a := a0) (As := [.int a1, .int 0, .int 0]) (y := 172) (is := List.drop 48 mC172) (L := [.ref a0, .int a1, .int x14, w3, w4]) (rest := []) (μ := μ) rfl (by decide) (by decide) ⟨rfl, rfl⟩ rfl h17 (Nat.le_of_ble_eq_true rfl) (Nat.le_of_ble_eq_true rfl) (t160 h19) ?_
    refine mGo.steps 2 (c' := (172, List.drop 50 mC172, [.ref a0, .int a1, .int x14, w3, w4], [.int a1, .ref a0], q18)) rfl ?_
    obtain ⟨h20, hr⟩ := mIf hr
    obtain ⟨q21, h22, hr⟩ := mBi hr
    refine gCall (z := 173) (n := 1) (f := 0) (kind := 1) (a := a0) (As := [.int a1]) (y := 172) (is := List.drop 51 mC172) (L := [.ref a0, .int a1, .int x14, w3, w4]) (rest := []) (μ := q18) rfl (by decide) (by decide) ⟨rfl, rfl⟩ rfl h20 (Nat.le_of_ble_eq_true rfl) (Nat.le_of_ble_eq_true rfl) (t173 h22) ?_
    refine mGo.steps 1 (c' := (172, List.drop 52 mC172, [.ref a0, .int a1, .int x14, w3, w4], [.ref a0], q21)) rfl ?_
    obtain ⟨h23, hr⟩ := mIf hr
    refine gGet (is := List.drop 53 mC172) (v := .ref (mP q21 a0 0)) h23 rfl ?_
    refine mGo.steps 2 (c' := (172, List.drop 55 mC172, [.ref a0, .int a1, .int x14, w3, w4], [.int 430, .ref (mP q21 a0 0), .int 430, .ref (mP q21 a0 0)], q21)) rfl ?_
    obtain ⟨h24, hr⟩ := mIf hr
    refine gIald (is := List.drop 56 mC172) h24 ?_
    refine mGo.steps 2 (c' := (172, List.drop 58 mC172, [.ref a0, .int a1, .int x14, w3, w4], [.int ((mI q21 (mP q21 a0 0) (Int32.toNatClampNeg 430)) + x14), .int 430, .ref (mP q21 a0 0)], q21)) rfl ?_
    replace hr := mBs hr
    refine gIast (is := List.drop 59 mC172) h24 ?_
    let μ25 : mM := mUI q21 (mP q21 a0 0) (Int32.toNatClampNeg 430) ((mI q21 (mP q21 a0 0) (Int32.toNatClampNeg 430)) + x14)
    refine mGo.steps 1 (c' := (172, List.drop 60 mC172, [.ref a0, .int a1, .int x14, w3, w4], [.int x14], μ25)) rfl ?_
    obtain rfl := Option.some.inj hr
    rw [show r = _ from hC]
    exact gIret rfl
  | inr y15 =>
    obtain rfl := Option.some.inj hr
    exact hC

/-! 174: TunnelFabricModel.kindOf(I)I -/
def s174_21 (μ : mM) (a0 : Int32) (t0 : Int32) : Option Int32 :=
  some t0
set_option maxRecDepth 20000 in
theorem t174_21 (μ : mM) (a0 : Int32) (t0 : Int32) (w0 : Value) (hw0 : mNotL w0 = true) {o : Int32} {r : Option Value × mM} (hr : s174_21 μ a0 t0 = some o) (hC : r = (some (.int o), μ)) : mGo mG (174, List.drop 21 mC174, [w0], [.int t0], μ) r := by
  unfold s174_21 at hr
  obtain rfl := Option.some.inj hr
  rw [show r = _ from hC]
  exact gIret rfl
def s174 (μ : mM) (a0 : Int32) : Option Int32 :=
  if ¬ a0 = 104 then (if ¬ a0 = 115 then (if ¬ a0 = 100 then (if ¬ a0 = 110 then (s174_21 μ a0 (-10)) else (s174_21 μ a0 3)) else (s174_21 μ a0 2)) else (s174_21 μ a0 1)) else (s174_21 μ a0 0)
set_option maxRecDepth 20000 in
theorem t174 {μ : mM} {a0 : Int32} {o : Int32} (hr : s174 μ a0 = some o) : mEv mG 174 [.int a0] μ (some (.int o)) (μ) := by
  obtain ⟨r, hC⟩ : ∃ r : Option Value × mM, r = (some (.int o), μ) := ⟨_, rfl⟩
  show mGo mG (174, List.drop 0 mC174, [.int a0], [], μ) (some (.int o), μ)
  rw [← hC]
  unfold s174 at hr
  refine mGo.steps 2 (c' := (174, List.drop 2 mC174, [.int a0], [.int 104, .int a0], μ)) rfl ?_
  rcases mIte hr with ⟨h4, hr⟩ | ⟨h4, hr⟩
  · refine gBrT (p := ¬ a0 = 104) (y := 174) (is := List.drop 3 mC174) (L := [.int a0]) (st := []) (μ := μ) (t := 10) rfl h4 ?_
    refine mGo.steps 2 (c' := (174, List.drop 7 mC174, [.int a0], [.int 115, .int a0], μ)) rfl ?_
    rcases mIte hr with ⟨h3, hr⟩ | ⟨h3, hr⟩
    · refine gBrT (p := ¬ a0 = 115) (y := 174) (is := List.drop 8 mC174) (L := [.int a0]) (st := []) (μ := μ) (t := 20) rfl h3 ?_
      refine mGo.steps 2 (c' := (174, List.drop 12 mC174, [.int a0], [.int 100, .int a0], μ)) rfl ?_
      rcases mIte hr with ⟨h2, hr⟩ | ⟨h2, hr⟩
      · refine gBrT (p := ¬ a0 = 100) (y := 174) (is := List.drop 13 mC174) (L := [.int a0]) (st := []) (μ := μ) (t := 30) rfl h2 ?_
        refine mGo.steps 2 (c' := (174, List.drop 17 mC174, [.int a0], [.int 110, .int a0], μ)) rfl ?_
        rcases mIte hr with ⟨h1, hr⟩ | ⟨h1, hr⟩
        · refine gBrT (p := ¬ a0 = 110) (y := 174) (is := List.drop 18 mC174) (L := [.int a0]) (st := []) (μ := μ) (t := 40) rfl h1 ?_
          refine mGo.steps 1 (c' := (174, List.drop 21 mC174, [.int a0], [.int (-10)], μ)) rfl ?_
          exact t174_21 μ a0 (-10) (.int a0) rfl hr hC
        · refine gBrF (p := ¬ a0 = 110) (y := 174) (is := List.drop 18 mC174) (L := [.int a0]) (st := []) (μ := μ) (t := 40) rfl h1 ?_
          refine mGo.steps 2 (c' := (174, List.drop 21 mC174, [.int a0], [.int 3], μ)) rfl ?_
          exact t174_21 μ a0 3 (.int a0) rfl hr hC
      · refine gBrF (p := ¬ a0 = 100) (y := 174) (is := List.drop 13 mC174) (L := [.int a0]) (st := []) (μ := μ) (t := 30) rfl h2 ?_
        refine mGo.steps 2 (c' := (174, List.drop 21 mC174, [.int a0], [.int 2], μ)) rfl ?_
        exact t174_21 μ a0 2 (.int a0) rfl hr hC
    · refine gBrF (p := ¬ a0 = 115) (y := 174) (is := List.drop 8 mC174) (L := [.int a0]) (st := []) (μ := μ) (t := 20) rfl h3 ?_
      refine mGo.steps 2 (c' := (174, List.drop 21 mC174, [.int a0], [.int 1], μ)) rfl ?_
      exact t174_21 μ a0 1 (.int a0) rfl hr hC
  · refine gBrF (p := ¬ a0 = 104) (y := 174) (is := List.drop 3 mC174) (L := [.int a0]) (st := []) (μ := μ) (t := 10) rfl h4 ?_
    refine mGo.steps 2 (c' := (174, List.drop 21 mC174, [.int a0], [.int 0], μ)) rfl ?_
    exact t174_21 μ a0 0 (.int a0) rfl hr hC
