/-! the law's loop, out of the 31 public calls kept by an invariant -/
/-- both calls change memory: the class's, then the reference's; one answer; the invariant stays -/
def CI (Inv : mM → Prop) (c d : mM → Option (Int32 × mM)) : Prop := ∀ μ, Inv μ → ∃ v μ1 μ2, c μ = some (v, μ1) ∧ (mS μ1 1 = mS μ 1 ∧ mI μ1 1 = mI μ 1 ∧ (mS μ1 200).1 = 9) ∧ d μ1 = some (v, μ2) ∧ Inv μ2
/-- both calls only read -/
def CP (Inv : mM → Prop) (c d : mM → Option Int32) : Prop := ∀ μ, Inv μ → ∃ v, c μ = some v ∧ d μ = some v
/-- type -/
def Op0 (Inv : mM → Prop) : Prop := ∀ (x1 : Int32), CI Inv (fun μ => s97 μ 2 x1) (fun μ => s178 μ 200 x1)
/-- clearText -/
def Op1 (Inv : mM → Prop) : Prop := CI Inv (fun μ => s98 μ 2) (fun μ => s179 μ 200)
/-- fault -/
def Op2 (Inv : mM → Prop) : Prop := CI Inv (fun μ => s99 μ 2) (fun μ => s177 μ 200)
/-- build -/
def Op3 (Inv : mM → Prop) : Prop := CI Inv (fun μ => s100 μ 2) (fun μ => s181 μ 200)
/-- plug -/
def Op4 (Inv : mM → Prop) : Prop := ∀ (x1 x2 x3 x4 : Int32), CI Inv (fun μ => s101 μ 2 x1 x2 x3 x4) (fun μ => s184 μ 200 x1 x2 x3 x4)
/-- unplug -/
def Op5 (Inv : mM → Prop) : Prop := ∀ (x1 : Int32), CI Inv (fun μ => s102 μ 2 x1) (fun μ => s186 μ 200 x1)
/-- widen -/
def Op6 (Inv : mM → Prop) : Prop := ∀ (x1 x2 : Int32), (x2 = 0 ∨ x2 = 1) → CI Inv (fun μ => s103 μ 2 x1 x2) (fun μ => s187 μ 200 x1 x2)
/-- router -/
def Op7 (Inv : mM → Prop) : Prop := ∀ (x1 x2 : Int32), CP Inv (fun μ => s104 μ 2 x1 x2) (fun μ => s188 μ 200 x1 x2)
/-- plugged -/
def Op8 (Inv : mM → Prop) : Prop := ∀ (x1 x2 : Int32), CP Inv (fun μ => s105 μ 2 x1 x2) (fun μ => s189 μ 200 x1 x2)
/-- link -/
def Op9 (Inv : mM → Prop) : Prop := ∀ (x1 x2 : Int32), CP Inv (fun μ => s106 μ 2 x1 x2) (fun μ => s190 μ 200 x1 x2)
/-- capacity -/
def Op10 (Inv : mM → Prop) : Prop := ∀ (x1 x2 : Int32), CP Inv (fun μ => s107 μ 2 x1 x2) (fun μ => s192 μ 200 x1 x2)
/-- freeCredits -/
def Op11 (Inv : mM → Prop) : Prop := ∀ (x1 x2 : Int32), CP Inv (fun μ => s108 μ 2 x1 x2) (fun μ => s193 μ 200 x1 x2)
/-- load -/
def Op12 (Inv : mM → Prop) : Prop := ∀ (x1 x2 : Int32), CP Inv (fun μ => s109 μ 2 x1 x2) (fun μ => s195 μ 200 x1 x2)
/-- open -/
def Op13 (Inv : mM → Prop) : Prop := ∀ (x1 x2 x3 : Int32), CI Inv (fun μ => s110 μ 2 x1 x2 x3) (fun μ => s198 μ 200 x1 x2 x3)
/-- close -/
def Op14 (Inv : mM → Prop) : Prop := ∀ (x1 : Int32), CI Inv (fun μ => s111 μ 2 x1) (fun μ => s201 μ 200 x1)
/-- claim -/
def Op15 (Inv : mM → Prop) : Prop := ∀ (x1 x2 : Int32), CI Inv (fun μ => s112 μ 2 x1 x2) (fun μ => s202 μ 200 x1 x2)
/-- offer -/
def Op16 (Inv : mM → Prop) : Prop := ∀ (x1 x2 x3 : Int32), CI Inv (fun μ => s113 μ 2 x1 x2 x3) (fun μ => s204 μ 200 x1 x2 x3)
/-- tunnel -/
def Op17 (Inv : mM → Prop) : Prop := ∀ (x1 x2 : Int32), CP Inv (fun μ => s114 μ 2 x1 x2) (fun μ => s205 μ 200 x1 x2)
/-- hop -/
def Op18 (Inv : mM → Prop) : Prop := ∀ (x1 x2 x3 x4 : Int32), CP Inv (fun μ => s115 μ 2 x1 x2 x3 x4) (fun μ => s206 μ 200 x1 x2 x3 x4)
/-- cellCount -/
def Op19 (Inv : mM → Prop) : Prop := ∀ (x1 x2 x3 : Int32), CP Inv (fun μ => s116 μ 2 x1 x2 x3) (fun μ => s207 μ 200 x1 x2 x3)
/-- tick -/
def Op20 (Inv : mM → Prop) : Prop := ∀ (x1 : Int32), CI Inv (fun μ => s117 μ 2 x1) (fun μ => s220 μ 200 x1)
/-- setPatience -/
def Op21 (Inv : mM → Prop) : Prop := ∀ (x1 : Int32), CI Inv (fun μ => s118 μ 2 x1) (fun μ => s221 μ 200 x1)
/-- fairShare -/
def Op22 (Inv : mM → Prop) : Prop := ∀ (x1 x2 : Int32), CI Inv (fun μ => s119 μ 2 x1 x2) (fun μ => s227 μ 200 x1 x2)
/-- room -/
def Op23 (Inv : mM → Prop) : Prop := ∀ (x1 : Int32), CP Inv (fun μ => s120 μ 2 x1) (fun μ => s228 μ 200 x1)
/-- bestPort -/
def Op24 (Inv : mM → Prop) : Prop := ∀ (x1 : Int32), CP Inv (fun μ => s121 μ 2 x1) (fun μ => s229 μ 200 x1)
/-- gain -/
def Op25 (Inv : mM → Prop) : Prop := ∀ (x1 : Int32), CI Inv (fun μ => s122 μ 2 x1) (fun μ => s231 μ 200 x1)
/-- bottleneck -/
def Op26 (Inv : mM → Prop) : Prop := ∀ (x1 : Int32), CP Inv (fun μ => s123 μ 2 x1) (fun μ => s232 μ 200 x1)
/-- count -/
def Op27 (Inv : mM → Prop) : Prop := ∀ (x1 : Int32), CP Inv (fun μ => s124 μ 2 x1) (fun μ => s235 μ 200 x1)
/-- save -/
def Op28 (Inv : mM → Prop) : Prop := ∀ (x1 : Int32), CI Inv (fun μ => s125 μ 2 x1) (fun μ => s236 μ 200 x1)
/-- restore -/
def Op29 (Inv : mM → Prop) : Prop := ∀ (x1 : Int32), CI Inv (fun μ => s126 μ 2 x1) (fun μ => s237 μ 200 x1)
/-- digest -/
def Op30 (Inv : mM → Prop) : Prop := ∀ μ, Inv μ → ∃ v μ2, s127 μ 2 = some v ∧ s241 μ 200 = some (v, μ2) ∧ Inv μ2
def Ops (Inv : mM → Prop) : Prop := Op0 Inv ∧ Op1 Inv ∧ Op2 Inv ∧ Op3 Inv ∧ Op4 Inv ∧ Op5 Inv ∧ Op6 Inv ∧ Op7 Inv ∧ Op8 Inv ∧ Op9 Inv ∧ Op10 Inv ∧ Op11 Inv ∧ Op12 Inv ∧ Op13 Inv ∧ Op14 Inv ∧ Op15 Inv ∧ Op16 Inv ∧ Op17 Inv ∧ Op18 Inv ∧ Op19 Inv ∧ Op20 Inv ∧ Op21 Inv ∧ Op22 Inv ∧ Op23 Inv ∧ Op24 Inv ∧ Op25 Inv ∧ Op26 Inv ∧ Op27 Inv ∧ Op28 Inv ∧ Op29 Inv ∧ Op30 Inv
theorem exI {c : Prop} [Decidable c] {α β : Type} {A B : Option α} {X : β → α} {P : β → Prop} (h1 : c → ∃ m, A = some (X m) ∧ P m) (h2 : ¬ c → ∃ m, B = some (X m) ∧ P m) : ∃ m, (if c then A else B) = some (X m) ∧ P m := by
  by_cases h : c
  · rw [if_pos h]; exact h1 h
  · rw [if_neg h]; exact h2 h
theorem exB {α β γ : Type} {a : Option γ} {v : γ} {f : γ → Option α} {X : β → α} {P : β → Prop} (h : a = some v) (h1 : ∃ m, f v = some (X m) ∧ P m) : ∃ m, a.bind f = some (X m) ∧ P m := by
  rw [h]; exact h1
theorem exT {c : Prop} [Decidable c] {α β : Type} {A B : Option α} {X : β → α} {P : β → Prop} (h : c) (h1 : ∃ m, A = some (X m) ∧ P m) : ∃ m, (if c then A else B) = some (X m) ∧ P m := exI (fun _ => h1) (fun q => absurd h q)
theorem exF {c : Prop} [Decidable c] {α β : Type} {A B : Option α} {X : β → α} {P : β → Prop} (h : ¬ c) (h1 : ∃ m, B = some (X m) ∧ P m) : ∃ m, (if c then A else B) = some (X m) ∧ P m := exI (fun q => absurd q h) (fun _ => h1)
set_option maxRecDepth 20000 in
set_option maxHeartbeats 4000000 in
theorem law_body {Inv : mM → Prop} {L : Nat} {xs : Nat → Int32} (hL : L ≤ 2560) (hB : ∀ μ, Inv μ → mS μ 1 = (98, L) ∧ mI μ 1 = xs ∧ (mS μ 2).1 = 8 ∧ (mS μ 200).1 = 9) (hO : Ops Inv) {i : Nat} (hi : 5 * i + 5 ≤ L) {μ : mM} (hI : Inv μ) : ∃ m, s242L10 1 2 200 (nI (5 * i), μ) = some (.inl (nI (5 * i) + 5, m)) ∧ Inv m := by
  obtain ⟨h0, h1, h2, h3, h4, h5, h6, h7, h8, h9, h10, h11, h12, h13, h14, h15, h16, h17, h18, h19, h20, h21, h22, h23, h24, h25, h26, h27, h28, h29, h30⟩ := hO
  obtain ⟨b1, b2, b3, b4⟩ := hB μ hI
  have bt : (mS μ 1).1 = 98 := by rw [b1]
  have bl : (mS μ 1).2 = L := by rw [b1]
  have j0 : mInb (nI (5 * i)) (mS μ 1).2 := by rw [bl]; exact mInb_nI (by omega) (by omega)
  have j1 : mInb (nI (5 * i) + 1) (mS μ 1).2 := by rw [bl, show nI (5 * i) + 1 = nI (5 * i + 1) from nI_add _ 1]; exact mInb_nI (by omega) (by omega)
  have j2 : mInb (nI (5 * i) + 2) (mS μ 1).2 := by rw [bl, show nI (5 * i) + 2 = nI (5 * i + 2) from nI_add _ 2]; exact mInb_nI (by omega) (by omega)
  have j3 : mInb (nI (5 * i) + 3) (mS μ 1).2 := by rw [bl, show nI (5 * i) + 3 = nI (5 * i + 3) from nI_add _ 3]; exact mInb_nI (by omega) (by omega)
  have j4 : mInb (nI (5 * i) + 4) (mS μ 1).2 := by rw [bl, show nI (5 * i) + 4 = nI (5 * i + 4) from nI_add _ 4]; exact mInb_nI (by omega) (by omega)
  have hex : ¬ (Int32.ofNat (mS μ 1).2) - 5 < nI (5 * i) := by
    rw [bl, show Int32.ofNat L - 5 = nI (L - 5) from pk_sub (a := L) (b := 5) (by omega)]
    exact nI_nlt (by omega) (by omega)
  unfold s242L10
  refine exT bt ?_
  refine exF hex ?_
  refine exT ⟨bt, j0⟩ ?_
  refine exI (fun _ => ?_) (fun _ => ?_)
  · refine exT ⟨bt, j1⟩ ?_
    obtain ⟨v, m1, m2, e1, ⟨d1, d2, d3⟩, e2, e3⟩ := h0 (mI μ 1 (Int32.toNatClampNeg (nI (5 * i) + 1))) μ hI
    refine exT b3 ?_
    refine exB e1 ?_
    have g1 : (mS m1 1).1 = 98 := by rw [d1]; exact bt
    have gl : (mS m1 1).2 = (mS μ 1).2 := by rw [d1]
    refine exT ⟨g1, by rw [gl]; exact j1⟩ ?_
    refine exT d3 ?_
    rw [d2]
    refine exB e2 ?_
    refine exT rfl ?_
    exact ⟨m2, rfl, e3⟩
  refine exI (fun _ => ?_) (fun _ => ?_)
  · obtain ⟨v, m1, m2, e1, ⟨d1, d2, d3⟩, e2, e3⟩ := h1 μ hI
    refine exT b3 ?_
    refine exB e1 ?_
    refine exT d3 ?_
    refine exB e2 ?_
    refine exT rfl ?_
    exact ⟨m2, rfl, e3⟩
  refine exI (fun _ => ?_) (fun _ => ?_)
  · obtain ⟨v, m1, m2, e1, ⟨d1, d2, d3⟩, e2, e3⟩ := h2 μ hI
    refine exT b3 ?_
    refine exB e1 ?_
    refine exT d3 ?_
    refine exB e2 ?_
    refine exT rfl ?_
    exact ⟨m2, rfl, e3⟩
  refine exI (fun _ => ?_) (fun _ => ?_)
  · obtain ⟨v, m1, m2, e1, ⟨d1, d2, d3⟩, e2, e3⟩ := h3 μ hI
    refine exT b3 ?_
    refine exB e1 ?_
    refine exT d3 ?_
    refine exB e2 ?_
    refine exT rfl ?_
    exact ⟨m2, rfl, e3⟩
  refine exI (fun _ => ?_) (fun _ => ?_)
  · refine exT ⟨bt, j1⟩ ?_
    refine exT ⟨bt, j2⟩ ?_
    refine exT ⟨bt, j3⟩ ?_
    refine exT ⟨bt, j4⟩ ?_
    obtain ⟨v, m1, m2, e1, ⟨d1, d2, d3⟩, e2, e3⟩ := h4 (mI μ 1 (Int32.toNatClampNeg (nI (5 * i) + 1))) (mI μ 1 (Int32.toNatClampNeg (nI (5 * i) + 2))) (mI μ 1 (Int32.toNatClampNeg (nI (5 * i) + 3))) (mI μ 1 (Int32.toNatClampNeg (nI (5 * i) + 4))) μ hI
    refine exT b3 ?_
    refine exB e1 ?_
    have g1 : (mS m1 1).1 = 98 := by rw [d1]; exact bt
    have gl : (mS m1 1).2 = (mS μ 1).2 := by rw [d1]
    refine exT ⟨g1, by rw [gl]; exact j1⟩ ?_
    refine exT ⟨g1, by rw [gl]; exact j2⟩ ?_
    refine exT ⟨g1, by rw [gl]; exact j3⟩ ?_
    refine exT ⟨g1, by rw [gl]; exact j4⟩ ?_
    refine exT d3 ?_
    rw [d2]
    refine exB e2 ?_
    refine exT rfl ?_
    exact ⟨m2, rfl, e3⟩
  refine exI (fun _ => ?_) (fun _ => ?_)
  · refine exT ⟨bt, j1⟩ ?_
    obtain ⟨v, m1, m2, e1, ⟨d1, d2, d3⟩, e2, e3⟩ := h5 (mI μ 1 (Int32.toNatClampNeg (nI (5 * i) + 1))) μ hI
    refine exT b3 ?_
    refine exB e1 ?_
    have g1 : (mS m1 1).1 = 98 := by rw [d1]; exact bt
    have gl : (mS m1 1).2 = (mS μ 1).2 := by rw [d1]
    refine exT ⟨g1, by rw [gl]; exact j1⟩ ?_
    refine exT d3 ?_
    rw [d2]
    refine exB e2 ?_
    refine exT rfl ?_
    exact ⟨m2, rfl, e3⟩
  refine exI (fun _ => ?_) (fun _ => ?_)
  · refine exT ⟨bt, j1⟩ ?_
    refine exT ⟨bt, j2⟩ ?_
    refine exI (fun hz => ?_) (fun hz => ?_)
    · obtain ⟨v, m1, m2, e1, ⟨d1, d2, d3⟩, e2, e3⟩ := h6 (mI μ 1 (Int32.toNatClampNeg (nI (5 * i) + 1))) 0 (by decide) μ hI
      have g1 : (mS m1 1).1 = 98 := by rw [d1]; exact bt
      have gl : (mS m1 1).2 = (mS μ 1).2 := by rw [d1]
      unfold s242L10_139
      refine exT b3 ?_
      refine exB e1 ?_
      refine exT ⟨g1, by rw [gl]; exact j1⟩ ?_
      refine exT ⟨g1, by rw [gl]; exact j2⟩ ?_
      refine exT (by rw [d2]; exact hz) ?_
      unfold s242L10_155
      refine exT d3 ?_
      rw [d2]
      refine exB e2 ?_
      refine exT rfl ?_
      exact ⟨m2, rfl, e3⟩
    · obtain ⟨v, m1, m2, e1, ⟨d1, d2, d3⟩, e2, e3⟩ := h6 (mI μ 1 (Int32.toNatClampNeg (nI (5 * i) + 1))) 1 (by decide) μ hI
      have g1 : (mS m1 1).1 = 98 := by rw [d1]; exact bt
      have gl : (mS m1 1).2 = (mS μ 1).2 := by rw [d1]
      unfold s242L10_139
      refine exT b3 ?_
      refine exB e1 ?_
      refine exT ⟨g1, by rw [gl]; exact j1⟩ ?_
      refine exT ⟨g1, by rw [gl]; exact j2⟩ ?_
      refine exF (by rw [d2]; exact hz) ?_
      unfold s242L10_155
      refine exT d3 ?_
      rw [d2]
      refine exB e2 ?_
      refine exT rfl ?_
      exact ⟨m2, rfl, e3⟩
  refine exI (fun _ => ?_) (fun _ => ?_)
  · refine exT ⟨bt, j1⟩ ?_
    refine exT ⟨bt, j2⟩ ?_
    obtain ⟨v, e1, e2⟩ := h7 (mI μ 1 (Int32.toNatClampNeg (nI (5 * i) + 1))) (mI μ 1 (Int32.toNatClampNeg (nI (5 * i) + 2))) μ hI
    refine exT b3 ?_
    refine exB e1 ?_
    refine exT b4 ?_
    refine exB e2 ?_
    refine exT rfl ?_
    exact ⟨μ, rfl, hI⟩
  refine exI (fun _ => ?_) (fun _ => ?_)
  · refine exT ⟨bt, j1⟩ ?_
    refine exT ⟨bt, j2⟩ ?_
    obtain ⟨v, e1, e2⟩ := h8 (mI μ 1 (Int32.toNatClampNeg (nI (5 * i) + 1))) (mI μ 1 (Int32.toNatClampNeg (nI (5 * i) + 2))) μ hI
    refine exT b3 ?_
    refine exB e1 ?_
    refine exT b4 ?_
    refine exB e2 ?_
    refine exT rfl ?_
    exact ⟨μ, rfl, hI⟩
  refine exI (fun _ => ?_) (fun _ => ?_)
  · refine exT ⟨bt, j1⟩ ?_
    refine exT ⟨bt, j2⟩ ?_
    obtain ⟨v, e1, e2⟩ := h9 (mI μ 1 (Int32.toNatClampNeg (nI (5 * i) + 1))) (mI μ 1 (Int32.toNatClampNeg (nI (5 * i) + 2))) μ hI
    refine exT b3 ?_
    refine exB e1 ?_
    refine exT b4 ?_
    refine exB e2 ?_
    refine exT rfl ?_
    exact ⟨μ, rfl, hI⟩
  refine exI (fun _ => ?_) (fun _ => ?_)
  · refine exT ⟨bt, j1⟩ ?_
    refine exT ⟨bt, j2⟩ ?_
    obtain ⟨v, e1, e2⟩ := h10 (mI μ 1 (Int32.toNatClampNeg (nI (5 * i) + 1))) (mI μ 1 (Int32.toNatClampNeg (nI (5 * i) + 2))) μ hI
    refine exT b3 ?_
    refine exB e1 ?_
    refine exT b4 ?_
    refine exB e2 ?_
    refine exT rfl ?_
    exact ⟨μ, rfl, hI⟩
  refine exI (fun _ => ?_) (fun _ => ?_)
  · refine exT ⟨bt, j1⟩ ?_
    refine exT ⟨bt, j2⟩ ?_
    obtain ⟨v, e1, e2⟩ := h11 (mI μ 1 (Int32.toNatClampNeg (nI (5 * i) + 1))) (mI μ 1 (Int32.toNatClampNeg (nI (5 * i) + 2))) μ hI
    refine exT b3 ?_
    refine exB e1 ?_
    refine exT b4 ?_
    refine exB e2 ?_
    refine exT rfl ?_
    exact ⟨μ, rfl, hI⟩
  refine exI (fun _ => ?_) (fun _ => ?_)
  · refine exT ⟨bt, j1⟩ ?_
    refine exT ⟨bt, j2⟩ ?_
    obtain ⟨v, e1, e2⟩ := h12 (mI μ 1 (Int32.toNatClampNeg (nI (5 * i) + 1))) (mI μ 1 (Int32.toNatClampNeg (nI (5 * i) + 2))) μ hI
    refine exT b3 ?_
    refine exB e1 ?_
    refine exT b4 ?_
    refine exB e2 ?_
    refine exT rfl ?_
    exact ⟨μ, rfl, hI⟩
  refine exI (fun _ => ?_) (fun _ => ?_)
  · refine exT ⟨bt, j1⟩ ?_
    refine exT ⟨bt, j2⟩ ?_
    refine exT ⟨bt, j3⟩ ?_
    obtain ⟨v, m1, m2, e1, ⟨d1, d2, d3⟩, e2, e3⟩ := h13 (mI μ 1 (Int32.toNatClampNeg (nI (5 * i) + 1))) (mI μ 1 (Int32.toNatClampNeg (nI (5 * i) + 2))) (mI μ 1 (Int32.toNatClampNeg (nI (5 * i) + 3))) μ hI
    refine exT b3 ?_
    refine exB e1 ?_
    have g1 : (mS m1 1).1 = 98 := by rw [d1]; exact bt
    have gl : (mS m1 1).2 = (mS μ 1).2 := by rw [d1]
    refine exT ⟨g1, by rw [gl]; exact j1⟩ ?_
    refine exT ⟨g1, by rw [gl]; exact j2⟩ ?_
    refine exT ⟨g1, by rw [gl]; exact j3⟩ ?_
    refine exT d3 ?_
    rw [d2]
    refine exB e2 ?_
    refine exT rfl ?_
    exact ⟨m2, rfl, e3⟩
  refine exI (fun _ => ?_) (fun _ => ?_)
  · refine exT ⟨bt, j1⟩ ?_
    obtain ⟨v, m1, m2, e1, ⟨d1, d2, d3⟩, e2, e3⟩ := h14 (mI μ 1 (Int32.toNatClampNeg (nI (5 * i) + 1))) μ hI
    refine exT b3 ?_
    refine exB e1 ?_
    have g1 : (mS m1 1).1 = 98 := by rw [d1]; exact bt
    have gl : (mS m1 1).2 = (mS μ 1).2 := by rw [d1]
    refine exT ⟨g1, by rw [gl]; exact j1⟩ ?_
    refine exT d3 ?_
    rw [d2]
    refine exB e2 ?_
    refine exT rfl ?_
    exact ⟨m2, rfl, e3⟩
  refine exI (fun _ => ?_) (fun _ => ?_)
  · refine exT ⟨bt, j1⟩ ?_
    refine exT ⟨bt, j2⟩ ?_
    obtain ⟨v, m1, m2, e1, ⟨d1, d2, d3⟩, e2, e3⟩ := h15 (mI μ 1 (Int32.toNatClampNeg (nI (5 * i) + 1))) (mI μ 1 (Int32.toNatClampNeg (nI (5 * i) + 2))) μ hI
    refine exT b3 ?_
    refine exB e1 ?_
    have g1 : (mS m1 1).1 = 98 := by rw [d1]; exact bt
    have gl : (mS m1 1).2 = (mS μ 1).2 := by rw [d1]
    refine exT ⟨g1, by rw [gl]; exact j1⟩ ?_
    refine exT ⟨g1, by rw [gl]; exact j2⟩ ?_
    refine exT d3 ?_
    rw [d2]
    refine exB e2 ?_
    refine exT rfl ?_
    exact ⟨m2, rfl, e3⟩
  refine exI (fun _ => ?_) (fun _ => ?_)
  · refine exT ⟨bt, j1⟩ ?_
    refine exT ⟨bt, j2⟩ ?_
    refine exT ⟨bt, j3⟩ ?_
    obtain ⟨v, m1, m2, e1, ⟨d1, d2, d3⟩, e2, e3⟩ := h16 (mI μ 1 (Int32.toNatClampNeg (nI (5 * i) + 1))) (mI μ 1 (Int32.toNatClampNeg (nI (5 * i) + 2))) (mI μ 1 (Int32.toNatClampNeg (nI (5 * i) + 3))) μ hI
    refine exT b3 ?_
    refine exB e1 ?_
    have g1 : (mS m1 1).1 = 98 := by rw [d1]; exact bt
    have gl : (mS m1 1).2 = (mS μ 1).2 := by rw [d1]
    refine exT ⟨g1, by rw [gl]; exact j1⟩ ?_
    refine exT ⟨g1, by rw [gl]; exact j2⟩ ?_
    refine exT ⟨g1, by rw [gl]; exact j3⟩ ?_
    refine exT d3 ?_
    rw [d2]
    refine exB e2 ?_
    refine exT rfl ?_
    exact ⟨m2, rfl, e3⟩
  refine exI (fun _ => ?_) (fun _ => ?_)
  · refine exT ⟨bt, j1⟩ ?_
    refine exT ⟨bt, j2⟩ ?_
    obtain ⟨v, e1, e2⟩ := h17 (mI μ 1 (Int32.toNatClampNeg (nI (5 * i) + 1))) (mI μ 1 (Int32.toNatClampNeg (nI (5 * i) + 2))) μ hI
    refine exT b3 ?_
    refine exB e1 ?_
    refine exT b4 ?_
    refine exB e2 ?_
    refine exT rfl ?_
    exact ⟨μ, rfl, hI⟩
  refine exI (fun _ => ?_) (fun _ => ?_)
  · refine exT ⟨bt, j1⟩ ?_
    refine exT ⟨bt, j2⟩ ?_
    refine exT ⟨bt, j3⟩ ?_
    refine exT ⟨bt, j4⟩ ?_
    obtain ⟨v, e1, e2⟩ := h18 (mI μ 1 (Int32.toNatClampNeg (nI (5 * i) + 1))) (mI μ 1 (Int32.toNatClampNeg (nI (5 * i) + 2))) (mI μ 1 (Int32.toNatClampNeg (nI (5 * i) + 3))) (mI μ 1 (Int32.toNatClampNeg (nI (5 * i) + 4))) μ hI
    refine exT b3 ?_
    refine exB e1 ?_
    refine exT b4 ?_
    refine exB e2 ?_
    refine exT rfl ?_
    exact ⟨μ, rfl, hI⟩
  refine exI (fun _ => ?_) (fun _ => ?_)
  · refine exT ⟨bt, j1⟩ ?_
    refine exT ⟨bt, j2⟩ ?_
    refine exT ⟨bt, j3⟩ ?_
    obtain ⟨v, e1, e2⟩ := h19 (mI μ 1 (Int32.toNatClampNeg (nI (5 * i) + 1))) (mI μ 1 (Int32.toNatClampNeg (nI (5 * i) + 2))) (mI μ 1 (Int32.toNatClampNeg (nI (5 * i) + 3))) μ hI
    refine exT b3 ?_
    refine exB e1 ?_
    refine exT b4 ?_
    refine exB e2 ?_
    refine exT rfl ?_
    exact ⟨μ, rfl, hI⟩
  refine exI (fun _ => ?_) (fun _ => ?_)
  · refine exT ⟨bt, j1⟩ ?_
    obtain ⟨v, m1, m2, e1, ⟨d1, d2, d3⟩, e2, e3⟩ := h20 (mI μ 1 (Int32.toNatClampNeg (nI (5 * i) + 1))) μ hI
    refine exT b3 ?_
    refine exB e1 ?_
    have g1 : (mS m1 1).1 = 98 := by rw [d1]; exact bt
    have gl : (mS m1 1).2 = (mS μ 1).2 := by rw [d1]
    refine exT ⟨g1, by rw [gl]; exact j1⟩ ?_
    refine exT d3 ?_
    rw [d2]
    refine exB e2 ?_
    refine exT rfl ?_
    exact ⟨m2, rfl, e3⟩
  refine exI (fun _ => ?_) (fun _ => ?_)
  · refine exT ⟨bt, j1⟩ ?_
    obtain ⟨v, m1, m2, e1, ⟨d1, d2, d3⟩, e2, e3⟩ := h21 (mI μ 1 (Int32.toNatClampNeg (nI (5 * i) + 1))) μ hI
    refine exT b3 ?_
    refine exB e1 ?_
    have g1 : (mS m1 1).1 = 98 := by rw [d1]; exact bt
    have gl : (mS m1 1).2 = (mS μ 1).2 := by rw [d1]
    refine exT ⟨g1, by rw [gl]; exact j1⟩ ?_
    refine exT d3 ?_
    rw [d2]
    refine exB e2 ?_
    refine exT rfl ?_
    exact ⟨m2, rfl, e3⟩
  refine exI (fun _ => ?_) (fun _ => ?_)
  · refine exT ⟨bt, j1⟩ ?_
    refine exT ⟨bt, j2⟩ ?_
    obtain ⟨v, m1, m2, e1, ⟨d1, d2, d3⟩, e2, e3⟩ := h22 (mI μ 1 (Int32.toNatClampNeg (nI (5 * i) + 1))) (mI μ 1 (Int32.toNatClampNeg (nI (5 * i) + 2))) μ hI
    refine exT b3 ?_
    refine exB e1 ?_
    have g1 : (mS m1 1).1 = 98 := by rw [d1]; exact bt
    have gl : (mS m1 1).2 = (mS μ 1).2 := by rw [d1]
    refine exT ⟨g1, by rw [gl]; exact j1⟩ ?_
    refine exT ⟨g1, by rw [gl]; exact j2⟩ ?_
    refine exT d3 ?_
    rw [d2]
    refine exB e2 ?_
    refine exT rfl ?_
    exact ⟨m2, rfl, e3⟩
  refine exI (fun _ => ?_) (fun _ => ?_)
  · refine exT ⟨bt, j1⟩ ?_
    obtain ⟨v, e1, e2⟩ := h23 (mI μ 1 (Int32.toNatClampNeg (nI (5 * i) + 1))) μ hI
    refine exT b3 ?_
    refine exB e1 ?_
    refine exT b4 ?_
    refine exB e2 ?_
    refine exT rfl ?_
    exact ⟨μ, rfl, hI⟩
  refine exI (fun _ => ?_) (fun _ => ?_)
  · refine exT ⟨bt, j1⟩ ?_
    obtain ⟨v, e1, e2⟩ := h24 (mI μ 1 (Int32.toNatClampNeg (nI (5 * i) + 1))) μ hI
    refine exT b3 ?_
    refine exB e1 ?_
    refine exT b4 ?_
    refine exB e2 ?_
    refine exT rfl ?_
    exact ⟨μ, rfl, hI⟩
  refine exI (fun _ => ?_) (fun _ => ?_)
  · refine exT ⟨bt, j1⟩ ?_
    obtain ⟨v, m1, m2, e1, ⟨d1, d2, d3⟩, e2, e3⟩ := h25 (mI μ 1 (Int32.toNatClampNeg (nI (5 * i) + 1))) μ hI
    refine exT b3 ?_
    refine exB e1 ?_
    have g1 : (mS m1 1).1 = 98 := by rw [d1]; exact bt
    have gl : (mS m1 1).2 = (mS μ 1).2 := by rw [d1]
    refine exT ⟨g1, by rw [gl]; exact j1⟩ ?_
    refine exT d3 ?_
    rw [d2]
    refine exB e2 ?_
    refine exT rfl ?_
    exact ⟨m2, rfl, e3⟩
  refine exI (fun _ => ?_) (fun _ => ?_)
  · refine exT ⟨bt, j1⟩ ?_
    obtain ⟨v, e1, e2⟩ := h26 (mI μ 1 (Int32.toNatClampNeg (nI (5 * i) + 1))) μ hI
    refine exT b3 ?_
    refine exB e1 ?_
    refine exT b4 ?_
    refine exB e2 ?_
    refine exT rfl ?_
    exact ⟨μ, rfl, hI⟩
  refine exI (fun _ => ?_) (fun _ => ?_)
  · refine exT ⟨bt, j1⟩ ?_
    obtain ⟨v, e1, e2⟩ := h27 (mI μ 1 (Int32.toNatClampNeg (nI (5 * i) + 1))) μ hI
    refine exT b3 ?_
    refine exB e1 ?_
    refine exT b4 ?_
    refine exB e2 ?_
    refine exT rfl ?_
    exact ⟨μ, rfl, hI⟩
  refine exI (fun _ => ?_) (fun _ => ?_)
  · refine exT ⟨bt, j1⟩ ?_
    obtain ⟨v, m1, m2, e1, ⟨d1, d2, d3⟩, e2, e3⟩ := h28 (mI μ 1 (Int32.toNatClampNeg (nI (5 * i) + 1))) μ hI
    refine exT b3 ?_
    refine exB e1 ?_
    have g1 : (mS m1 1).1 = 98 := by rw [d1]; exact bt
    have gl : (mS m1 1).2 = (mS μ 1).2 := by rw [d1]
    refine exT ⟨g1, by rw [gl]; exact j1⟩ ?_
    refine exT d3 ?_
    rw [d2]
    refine exB e2 ?_
    refine exT rfl ?_
    exact ⟨m2, rfl, e3⟩
  refine exI (fun _ => ?_) (fun _ => ?_)
  · refine exT ⟨bt, j1⟩ ?_
    obtain ⟨v, m1, m2, e1, ⟨d1, d2, d3⟩, e2, e3⟩ := h29 (mI μ 1 (Int32.toNatClampNeg (nI (5 * i) + 1))) μ hI
    refine exT b3 ?_
    refine exB e1 ?_
    have g1 : (mS m1 1).1 = 98 := by rw [d1]; exact bt
    have gl : (mS m1 1).2 = (mS μ 1).2 := by rw [d1]
    refine exT ⟨g1, by rw [gl]; exact j1⟩ ?_
    refine exT d3 ?_
    rw [d2]
    refine exB e2 ?_
    refine exT rfl ?_
    exact ⟨m2, rfl, e3⟩
  refine exI (fun _ => ?_) (fun _ => ?_)
  · obtain ⟨v, m2, e1, e2, e3⟩ := h30 μ hI
    refine exT b3 ?_
    refine exB e1 ?_
    refine exT b4 ?_
    refine exB e2 ?_
    refine exT (by show lg_cmp v v = 0; simp [lg_cmp]) ?_
    exact ⟨m2, rfl, e3⟩
  exact ⟨μ, rfl, hI⟩
theorem law_end {L : Nat} (hL : L ≤ 2560) {i : Nat} (hi : L < 5 * i + 5) (hi2 : 5 * i ≤ L) {μ : mM} (b1 : mS μ 1 = (98, L)) : s242L10 1 2 200 (nI (5 * i), μ) = some (.inr (.inl μ)) := by
  have bt : (mS μ 1).1 = 98 := by rw [b1]
  have bl : (mS μ 1).2 = L := by rw [b1]
  have hex : (Int32.ofNat (mS μ 1).2) - 5 < nI (5 * i) := by
    rw [bl, Int32.lt_iff_toInt_lt, nI_toInt (by omega)]
    have e1 : (Int32.ofNat L - 5).toInt = (L : Int) - 5 := pk_sub_toInt (a := L) (b := 5) (by omega) (by omega)
    rw [e1]; omega
  unfold s242L10
  rw [if_pos bt, if_pos hex]
theorem law_loop {Inv : mM → Prop} {L : Nat} {xs : Nat → Int32} (hL : L ≤ 2560) (hB : ∀ μ, Inv μ → mS μ 1 = (98, L) ∧ mI μ 1 = xs ∧ (mS μ 2).1 = 8 ∧ (mS μ 200).1 = 9) (hO : Ops Inv) {μ : mM} (hI : Inv μ) : ∃ m, mLoop (s242L10 1 2 200) 1000 (0, μ) = some (.inl m) ∧ Inv m := by
  obtain ⟨o, h1, m, h2, h3⟩ := mLoop_inv0 (b := s242L10 1 2 200) (fun i s => s.1 = nI (5 * i) ∧ Inv s.2 ∧ 5 * i ≤ L) (L / 5) (fun o => ∃ m, o = .inl m ∧ Inv m) (fun i s hi hs => by
    obtain ⟨x, ν⟩ := s
    obtain ⟨hx, hν, hl⟩ := hs
    simp only at hx hν
    subst hx
    obtain ⟨m, e1, e2⟩ := law_body hL hB hO (i := i) (by omega) hν
    exact Or.inl ⟨_, e1, by show nI (5 * i) + 5 = nI (5 * (i + 1)); rw [show 5 * (i + 1) = 5 * i + 5 by omega]; exact nI_add _ 5, e2, by omega⟩) (fun s hs => by
    obtain ⟨x, ν⟩ := s
    obtain ⟨hx, hν, hl⟩ := hs
    simp only at hx hν
    subst hx
    exact ⟨.inl ν, law_end hL (i := L / 5) (by omega) (by omega) (hB ν hν).1, ν, rfl, hν⟩) (s := (0, μ)) ⟨rfl, hI, by omega⟩ (n := 1000) (by omega)
  subst h2
  exact ⟨m, h1, h3⟩
