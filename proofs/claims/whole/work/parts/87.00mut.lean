/-! changes: of the abstract state, of the reference's row, of the class's fabric; what stays -/
def up2 {α : Type} (g : Nat → Nat → α) (i j : Nat) (v : α) : Nat → Nat → α := fun a b => if a = i ∧ b = j then v else g a b
def setR (A : Ab) (r k v : Nat) : Ab := (up2 A.1 r k v, A.2)
def setT (A : Ab) (t k v : Nat) : Ab := (A.1, up2 A.2.1 t k v, A.2.2)
def setW (A : Ab) (t d h k v : Nat) : Ab := (A.1, A.2.1, (fun a b c e => if a = t ∧ b = d ∧ c = h ∧ e = k then v else A.2.2.1 a b c e), A.2.2.2)
def setC (A : Ab) (k v : Nat) : Ab := (A.1, A.2.1, A.2.2.1, (fun a => if a = k then v else A.2.2.2.1 a), A.2.2.2.2)
def setL (A : Ab) (r d : Nat) (x : UInt32) : Ab := (A.1, A.2.1, A.2.2.1, A.2.2.2.1, up2 A.2.2.2.2 r d x)
/-- the static part stays, and so do the rows outside lo .. hi - 1 -/
def Fr (lo hi : Nat) (μ μ' : mM) : Prop := μ'.2.2.2 = μ.2.2.2 ∧ ∀ q, (q < lo ∨ hi ≤ q) → mI μ' q = mI μ q ∧ mF μ' q = mF μ q
theorem Fr.refl (lo hi : Nat) (μ : mM) : Fr lo hi μ μ := ⟨rfl, fun _ _ => ⟨rfl, rfl⟩⟩
theorem Fr.trans {lo hi : Nat} {μ μ1 μ2 : mM} (h1 : Fr lo hi μ μ1) (h2 : Fr lo hi μ1 μ2) : Fr lo hi μ μ2 := ⟨h2.1.trans h1.1, fun q hq => ⟨((h2.2 q hq).1).trans (h1.2 q hq).1, ((h2.2 q hq).2).trans (h1.2 q hq).2⟩⟩
theorem Fr.mono {lo hi lo' hi' : Nat} {μ μ1 : mM} (h : Fr lo hi μ μ1) (h1 : lo' ≤ lo) (h2 : hi ≤ hi') : Fr lo' hi' μ μ1 := ⟨h.1, fun q hq => h.2 q (by omega)⟩
theorem Fr.S {lo hi : Nat} {μ μ1 : mM} (h : Fr lo hi μ μ1) : mS μ1 = mS μ := by show μ1.2.2.2.2.1 = μ.2.2.2.2.1; rw [h.1]
theorem Fr.P {lo hi : Nat} {μ μ1 : mM} (h : Fr lo hi μ μ1) : mP μ1 = mP μ := by show μ1.2.2.2.1 = μ.2.2.2.1; rw [h.1]
theorem Fr_UI {lo hi : Nat} (μ : mM) {a : Nat} (h1 : lo ≤ a) (h2 : a < hi) (k : Nat) (x : Int32) : Fr lo hi μ (mUI μ a k x) := ⟨rfl, fun q hq => ⟨by funext j; rw [mI_UI, if_neg (by omega)], rfl⟩⟩
theorem Fr_UF {lo hi : Nat} (μ : mM) {a : Nat} (h1 : lo ≤ a) (h2 : a < hi) (k : Nat) (x : UInt32) : Fr lo hi μ (mUF μ a k x) := ⟨rfl, fun q hq => ⟨rfl, by funext j; rw [mF_UF, if_neg (by omega)]⟩⟩
theorem Fr_UJ (lo hi : Nat) (μ : mM) (a k : Nat) (x : Int64) : Fr lo hi μ (mUJ μ a k x) := ⟨rfl, fun q hq => ⟨rfl, rfl⟩⟩
theorem aR_setR {A : Ab} {r k v a b : Nat} : aR (setR A r k v) a b = if a = r ∧ b = k then v else aR A a b := rfl
theorem aT_setT {A : Ab} {r k v a b : Nat} : aT (setT A r k v) a b = if a = r ∧ b = k then v else aT A a b := rfl
theorem aW_setW {A : Ab} {t d h k v a b c e : Nat} : aW (setW A t d h k v) a b c e = if a = t ∧ b = d ∧ c = h ∧ e = k then v else aW A a b c e := rfl
theorem aC_setC {A : Ab} {k v a : Nat} : aC (setC A k v) a = if a = k then v else aC A a := rfl
theorem aL_setL {A : Ab} {r d a b : Nat} {x : UInt32} : aL (setL A r d x) a b = if a = r ∧ b = d then x else aL A a b := rfl
section MU
variable {μ μ' : mM} {A A' : Ab} {f r k t d h q v : Nat} {x : UInt32}
theorem RS.fr {lo hi : Nat} (hM : RS μ A) (hf : Fr lo hi μ μ') (h : hi ≤ 201 ∨ 203 ≤ lo) : RS μ' A := by
  unfold RS
  rw [hf.S, hf.P, (hf.2 201 (by omega)).1, (hf.2 202 (by omega)).2]
  exact hM
theorem RepC.congr {I I' : Nat → Nat → Int32} {F F' : Nat → Nat → UInt32} (h : RepC I F f A) (hI : ∀ q, f ≤ q → q < f + 181 → I' q = I q) (hF : ∀ q, f ≤ q → q < f + 181 → F' q = F q) : RepC I' F' f A := by
  have e1 : ∀ r, r < 8 → f ≤ ro f r ∧ ro f r + 5 < f + 181 := fun r hr => by unfold ro; omega
  have e2 : ∀ t, t < 10 → f ≤ tu f t ∧ tu f t < f + 181 := fun r hr => by unfold tu; omega
  have e3 : ∀ t d, t < 10 → d < 2 → f ≤ wy f t d ∧ wy f t d + 5 < f + 181 := fun t d ht hd => by unfold wy; omega
  obtain ⟨h1, h2, h3, h4, h5, h6, h7, h8⟩ := h
  refine ⟨?_, fun r hr => ?_, fun r hr hp => ?_, fun r r1 hr hp => ?_, fun t ht => ?_, fun t ht ho => ?_, fun t d ht ho hd => ?_, fun t d h ht ho hd hh => ?_⟩
  · rw [hI f (by omega) (by omega)]; exact h1
  · have := e1 r hr
    rw [hI _ (by omega) (by omega)]; exact h2 r hr
  · have := e1 r hr
    rw [hI _ (by omega) (by omega)]; exact h3 r hr hp
  · have := e1 r hr
    rw [hI (ro f r + 1) (by omega) (by omega), hI (ro f r + 2) (by omega) (by omega), hI (ro f r + 3) (by omega) (by omega), hF (ro f r + 5) (by omega) (by omega)]; exact h4 r r1 hr hp
  · have := e2 t ht
    rw [hI _ (by omega) (by omega)]; exact h5 t ht
  · have := e2 t ht
    rw [hI _ (by omega) (by omega)]; exact h6 t ht ho
  · have := e3 t d ht hd
    rw [hI _ (by omega) (by omega)]; exact h7 t d ht ho hd
  · have := e3 t d ht hd
    rw [hI (wy f t d + 1) (by omega) (by omega), hI (wy f t d + 2) (by omega) (by omega), hI (wy f t d + 3) (by omega) (by omega), hI (wy f t d + 4) (by omega) (by omega)]; exact h8 t d h ht ho hd hh
theorem CS.fr {lo hi : Nat} (hC : CS μ f A) (hf : Fr lo hi μ μ') (h : hi ≤ f ∨ f + 181 ≤ lo) : CS μ' f A := by
  refine ⟨by rw [hf.S, hf.P]; exact hC.1, hC.2.congr (fun q a b => (hf.2 q (by omega)).1) (fun q a b => (hf.2 q (by omega)).2)⟩
/-- the reference's row: one number changed -/
theorem RS.uR (hM : RS μ A) (hr : r < 8) (hk : k < 9) : RS (mUI μ 201 (9 * r + k) (nI v)) (setR A r k v) := by
  obtain ⟨h0, h1, h2, h3, h4, h5, h6, h7⟩ := hM
  refine ⟨h0, fun a b c e => ?_, fun a b c e => ?_, fun a b c e g i => ?_, fun a b c e g i j l => ?_, fun a b c e => ?_, fun a b => ?_, h7⟩
  · rw [mI_UI, aR_setR]
    by_cases q : a = r ∧ b = k
    · rw [if_pos (by omega), if_pos q]
    · rw [if_neg (by omega), if_neg q]; exact h1 a b c e
  · rw [mI_UI, if_neg (by omega)]; exact h2 a b c e
  · rw [mI_UI, if_neg (by omega)]; exact h3 a b c e g i
  · rw [mI_UI, if_neg (by omega)]; exact h4 a b c e g i j l
  · rw [mI_UI, aR_setR, if_neg (by omega), if_neg (by omega)]; exact h5 a b c e
  · rw [mI_UI, if_neg (by omega)]; exact h6 a b
theorem RS.uT (hM : RS μ A) (hr : t < 10) (hk : k < 6) : RS (mUI μ 201 (72 + 6 * t + k) (nI v)) (setT A t k v) := by
  obtain ⟨h0, h1, h2, h3, h4, h5, h6, h7⟩ := hM
  refine ⟨h0, fun a b c e => ?_, fun a b c e => ?_, fun a b c e g i => ?_, fun a b c e g i j l => ?_, fun a b c e => ?_, fun a b => ?_, h7⟩
  · rw [mI_UI, if_neg (by omega)]; exact h1 a b c e
  · rw [mI_UI, aT_setT]
    by_cases q : a = t ∧ b = k
    · rw [if_pos (by omega), if_pos q]
    · rw [if_neg (by omega), if_neg q]; exact h2 a b c e
  · rw [mI_UI, if_neg (by omega)]; exact h3 a b c e g i
  · rw [mI_UI, if_neg (by omega)]; exact h4 a b c e g i j l
  · rw [mI_UI, if_neg (by omega)]; exact h5 a b c e
  · rw [mI_UI, if_neg (by omega)]; exact h6 a b
theorem RS.uQ (hM : RS μ A) (hr : t < 10) (hd : d < 2) (hk : k < 2) : RS (mUI μ 201 (132 + 4 * t + 2 * d + k) (nI v)) (setW A t d 4 k v) := by
  obtain ⟨h0, h1, h2, h3, h4, h5, h6, h7⟩ := hM
  refine ⟨h0, fun a b c e => ?_, fun a b c e => ?_, fun a b c e g i => ?_, fun a b c e g i j l => ?_, fun a b c e => ?_, fun a b => ?_, h7⟩
  · rw [mI_UI, if_neg (by omega)]; exact h1 a b c e
  · rw [mI_UI, if_neg (by omega)]; exact h2 a b c e
  · rw [mI_UI, aW_setW]
    by_cases q : a = t ∧ b = d ∧ c = k
    · rw [if_pos (by omega), if_pos (by omega)]
    · rw [if_neg (by omega), if_neg (by omega)]; exact h3 a b c e g i
  · rw [mI_UI, aW_setW, if_neg (by omega), if_neg (by omega)]; exact h4 a b c e g i j l
  · rw [mI_UI, if_neg (by omega)]; exact h5 a b c e
  · rw [mI_UI, if_neg (by omega)]; exact h6 a b
theorem RS.uW (hM : RS μ A) (hr : t < 10) (hd : d < 2) (hh : h < 4) (hk : k < 3) : RS (mUI μ 201 (172 + 3 * (8 * t + 4 * d + h) + k) (nI v)) (setW A t d h k v) := by
  obtain ⟨h0, h1, h2, h3, h4, h5, h6, h7⟩ := hM
  refine ⟨h0, fun a b c e => ?_, fun a b c e => ?_, fun a b c e g i => ?_, fun a b c e g i j l => ?_, fun a b c e => ?_, fun a b => ?_, h7⟩
  · rw [mI_UI, if_neg (by omega)]; exact h1 a b c e
  · rw [mI_UI, if_neg (by omega)]; exact h2 a b c e
  · rw [mI_UI, aW_setW, if_neg (by omega), if_neg (by omega)]; exact h3 a b c e g i
  · rw [mI_UI, aW_setW]
    by_cases q : a = t ∧ b = d ∧ c = h ∧ e = k
    · rw [if_pos (by omega), if_pos q]
    · rw [if_neg (by omega), if_neg q]; exact h4 a b c e g i j l
  · rw [mI_UI, if_neg (by omega)]; exact h5 a b c e
  · rw [mI_UI, if_neg (by omega)]; exact h6 a b
theorem RS.uP (hM : RS μ A) (hr : r < 8) (hd : d < 2) : RS (mUI μ 201 (412 + 2 * r + d) (nI v)) (setR A r (9 + d) v) := by
  obtain ⟨h0, h1, h2, h3, h4, h5, h6, h7⟩ := hM
  refine ⟨h0, fun a b c e => ?_, fun a b c e => ?_, fun a b c e g i => ?_, fun a b c e g i j l => ?_, fun a b c e => ?_, fun a b => ?_, h7⟩
  · rw [mI_UI, aR_setR, if_neg (by omega), if_neg (by omega)]; exact h1 a b c e
  · rw [mI_UI, if_neg (by omega)]; exact h2 a b c e
  · rw [mI_UI, if_neg (by omega)]; exact h3 a b c e g i
  · rw [mI_UI, if_neg (by omega)]; exact h4 a b c e g i j l
  · rw [mI_UI, aR_setR]
    by_cases q : a = r ∧ b = d
    · rw [if_pos (by omega), if_pos (by omega)]
    · rw [if_neg (by omega), if_neg (by omega)]; exact h5 a b c e
  · rw [mI_UI, if_neg (by omega)]; exact h6 a b
theorem RS.uC (hM : RS μ A) (hk : k < 5) : RS (mUI μ 201 (428 + k) (nI v)) (setC A k v) := by
  obtain ⟨h0, h1, h2, h3, h4, h5, h6, h7⟩ := hM
  refine ⟨h0, fun a b c e => ?_, fun a b c e => ?_, fun a b c e g i => ?_, fun a b c e g i j l => ?_, fun a b c e => ?_, fun a b => ?_, h7⟩
  · rw [mI_UI, if_neg (by omega)]; exact h1 a b c e
  · rw [mI_UI, if_neg (by omega)]; exact h2 a b c e
  · rw [mI_UI, if_neg (by omega)]; exact h3 a b c e g i
  · rw [mI_UI, if_neg (by omega)]; exact h4 a b c e g i j l
  · rw [mI_UI, if_neg (by omega)]; exact h5 a b c e
  · rw [mI_UI, aC_setC]
    by_cases q : a = k
    · rw [if_pos (by omega), if_pos (by omega)]
    · rw [if_neg (by omega), if_neg (by omega)]; exact h6 a b
theorem RS.uL (hM : RS μ A) (hr : r < 8) (hd : d < 2) : RS (mUF μ 202 (2 * r + d) x) (setL A r d x) := by
  obtain ⟨h0, h1, h2, h3, h4, h5, h6, h7⟩ := hM
  refine ⟨h0, h1, h2, h3, h4, h5, h6, fun a b c e => ?_⟩
  rw [mF_UF, aL_setL]
  by_cases q : a = r ∧ b = d
  · rw [if_pos (by omega), if_pos (by omega)]
  · rw [if_neg (by omega), if_neg (by omega)]; exact h7 a b c e
theorem k149 (hM : RS μ A) (hr : r < 8) (hk : k < 9) : s149 μ 200 (nI r) (nI k) (nI v) = some (mUI μ 201 (9 * r + k) (nI v)) := by
  have hR := hM.1
  simp (disch := omega) only [s149, RefL.s hR, RefL.r0 hR, RefL.r1 hR, RefL.r2 hR, RefL.r3 hR, RefL.r4 hR, RefL.r5 hR, RefL.r7 hR, RefL.r8 hR, RefL.r9 hR, RefL.r10 hR, RefL.r12 hR, RefL.r13 hR, RefL.r14 hR, RefL.r15 hR, RefL.r16 hR, RefL.r17 hR, RefL.r18 hR, RefL.r19 hR, RefL.a0 hR, RefL.a1 hR, RefL.a2 hR, RefL.a3 hR, RefL.a4 hR, RefL.a5 hR, RefL.a7 hR, RefL.a8 hR, RefL.a9 hR, RefL.a10 hR, RefL.a12 hR, RefL.a13 hR, RefL.a14 hR, RefL.a15 hR, RefL.a16 hR, RefL.a17 hR, RefL.a18 hR, RefL.a19 hR, Option.bind_some, Sum.elim_inl, Sum.elim_inr, reduceIte, if_true, if_false, ite_true, ite_false, not_true_eq_false, not_false_eq_true, or_true, true_or, or_false, false_or, and_true, true_and, and_false, false_and, eq_self, ne_eq, Nat.reduceAdd, Nat.reduceMul, Nat.le_refl, ite_self, Nat.reduceEqDiff, Nat.reduceLeDiff, Nat.reduceLT, L_0, L_1, L_2, L_3, L_4, L_5, L_6, L_7, L_8, L_9, L_10, L_11, L_12, L_13, L_14, L_15, L_16, L_24, L_31, L_40, L_48, L_49, L_50, L_51, L_60, L_72, L_99, L_127, L_132, L_172, L_412, L_428, L_429, L_430, L_431, L_432, L_433, L_1000, nI_add, nI_mul, nI_leI, nI_ltI, nI_eq, m_cl, mInb_iff, nI_ng, ng_nI, ng_ng, nI_lt_ng, ng_lt_nI, nI_le_ng, ng_le_nI]
  rw [if_pos (by omega)]
theorem k160 (hM : RS μ A) (hr : t < 10) (hk : k < 6) : s160 μ 200 (nI t) (nI k) (nI v) = some (mUI μ 201 (72 + 6 * t + k) (nI v)) := by
  have hR := hM.1
  simp (disch := omega) only [s160, RefL.s hR, RefL.r0 hR, RefL.r1 hR, RefL.r2 hR, RefL.r3 hR, RefL.r4 hR, RefL.r5 hR, RefL.r7 hR, RefL.r8 hR, RefL.r9 hR, RefL.r10 hR, RefL.r12 hR, RefL.r13 hR, RefL.r14 hR, RefL.r15 hR, RefL.r16 hR, RefL.r17 hR, RefL.r18 hR, RefL.r19 hR, RefL.a0 hR, RefL.a1 hR, RefL.a2 hR, RefL.a3 hR, RefL.a4 hR, RefL.a5 hR, RefL.a7 hR, RefL.a8 hR, RefL.a9 hR, RefL.a10 hR, RefL.a12 hR, RefL.a13 hR, RefL.a14 hR, RefL.a15 hR, RefL.a16 hR, RefL.a17 hR, RefL.a18 hR, RefL.a19 hR, Option.bind_some, Sum.elim_inl, Sum.elim_inr, reduceIte, if_true, if_false, ite_true, ite_false, not_true_eq_false, not_false_eq_true, or_true, true_or, or_false, false_or, and_true, true_and, and_false, false_and, eq_self, ne_eq, Nat.reduceAdd, Nat.reduceMul, Nat.le_refl, ite_self, Nat.reduceEqDiff, Nat.reduceLeDiff, Nat.reduceLT, L_0, L_1, L_2, L_3, L_4, L_5, L_6, L_7, L_8, L_9, L_10, L_11, L_12, L_13, L_14, L_15, L_16, L_24, L_31, L_40, L_48, L_49, L_50, L_51, L_60, L_72, L_99, L_127, L_132, L_172, L_412, L_428, L_429, L_430, L_431, L_432, L_433, L_1000, nI_add, nI_mul, nI_leI, nI_ltI, nI_eq, m_cl, mInb_iff, nI_ng, ng_nI, ng_ng, nI_lt_ng, ng_lt_nI, nI_le_ng, ng_le_nI]
  rw [if_pos (by omega)]
/-- what depends on the parents alone -/
theorem anc_cg (h : ∀ r, aR A' r 3 = aR A r 3) : ∀ k, anc A' r k = anc A r k
  | 0 => rfl
  | k + 1 => by show aR A' (anc A' r k) 3 = aR A (anc A r k) 3; rw [anc_cg h k, h]
theorem depN_cg (h : ∀ r, aR A' r 3 = aR A r 3) : ∀ n r, depN A' n r = depN A n r
  | 0, _ => rfl
  | n + 1, r => by unfold depN; rw [h, depN_cg h n]
theorem dep_cg (h : ∀ r, aR A' r 3 = aR A r 3) : dep A' r = dep A r := depN_cg h 5 r
theorem onb_cg (h : ∀ r, aR A' r 3 = aR A r 3) : onb A' r d = onb A r d := by
  unfold onb; rw [dep_cg h]
  congr 2
  funext k; rw [anc_cg h]
theorem us_cg (h : ∀ r, aR A' r 3 = aR A r 3) (h0 : aT A' t 0 = aT A t 0) (h1 : aT A' t 1 = aT A t 1) (h2 : aT A' t 2 = aT A t 2) : us A' t r d = us A t r d := by
  unfold us; rw [h0, h1, h2, onb_cg h]
theorem wN_cg (h : ∀ r, aR A' r 3 = aR A r 3) (h1 : aT A' t 1 = aT A t 1) (h2 : aT A' t 2 = aT A t 2) : wN A' t d = wN A t d := by
  unfold wN; rw [h1, h2, dep_cg h]
theorem wU_cg (h1 : aT A' t 1 = aT A t 1) : wU A' t d = wU A t d := by
  unfold wU; rw [h1]
theorem wP_cg (h : ∀ r, aR A' r 3 = aR A r 3) (h2 : aT A' t 2 = aT A t 2) {k : Nat} : wP A' t d k = wP A t d k := by
  unfold wP; rw [h2, dep_cg h, anc_cg h, anc_cg h]
theorem lgen_cg (h : ∀ r, aR A' r 3 = aR A r 3) (h2 : ∀ r, aR A' r 2 = aR A r 2) : lgen A' r = lgen A r := by
  unfold lgen; rw [h, h2, h2]
theorem cap_cg (h : ∀ r, aR A' r 3 = aR A r 3) (h2 : ∀ r, aR A' r 2 = aR A r 2) (h5 : aR A' r 5 = aR A r 5) : cap A' r d = cap A r d := by
  unfold cap; rw [lgen_cg h h2, h5]
theorem poolK_cg (h : ∀ r, aR A' r 3 = aR A r 3) (h1 : ∀ r, aR A' r 1 = aR A r 1) : poolK A' r d = poolK A r d := by
  unfold poolK; rw [h, h1, h1]
end MU
