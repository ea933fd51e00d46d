/-! the distribution of bandwidth: what it does to the abstract state; both sides do it -/
theorem sumN_one {g g' : Nat → Nat} {t : Nat} : ∀ {n : Nat}, t < n → (∀ i, i < n → ¬ i = t → g' i = g i) → sumN g' n + g t = sumN g n + g' t
  | 0, h, _ => by omega
  | n + 1, h, H => by
    show sumN g' n + g' n + g t = sumN g n + g n + g' t
    by_cases e : t = n
    · subst e
      rw [sumN_congr (fun i hi => H i (by omega) (by omega))]; omega
    · have := sumN_one (n := n) (by omega) (fun i hi hn => H i (by omega) hn)
      have := H n (by omega) (by omega)
      omega
theorem sumN_lt {g h : Nat → Nat} {t : Nat} : ∀ {n : Nat}, t < n → (∀ i, i < n → g i ≤ h i) → g t < h t → sumN g n < sumN h n
  | 0, a, _, _ => by omega
  | n + 1, a, H, b => by
    show sumN g n + g n < sumN h n + h n
    by_cases e : t = n
    · subst e
      have := sumN_le (n := t) (fun i hi => H i (by omega)); omega
    · have := sumN_lt (n := n) (by omega) (fun i hi => H i (by omega)) b
      have := H n (by omega); omega
/-- flags are 0 or 1 everywhere in a fabric -/
def BZ (I : Nat → Nat → Int32) (f : Nat) : Prop := (∀ r, r < 8 → I (ro f r + 1) 1 = nI 0 ∨ I (ro f r + 1) 1 = nI 1) ∧ ∀ t d, t < 10 → d < 2 → I (wy f t d) 0 = nI 0 ∨ I (wy f t d) 0 = nI 1
theorem BZ.cg {I I' : Nat → Nat → Int32} {f : Nat} (h : BZ I f) (h1 : ∀ r, r < 8 → I' (ro f r + 1) 1 = I (ro f r + 1) 1) (h2 : ∀ t d, t < 10 → d < 2 → I' (wy f t d) 0 = I (wy f t d) 0) : BZ I' f := ⟨fun r hr => by rw [h1 r hr]; exact h.1 r hr, fun t d ht hd => by rw [h2 t d ht hd]; exact h.2 t d ht hd⟩
theorem BZ.fr {lo hi f : Nat} {μ μ' : mM} (h : BZ (mI μ) f) (hf : Fr lo hi μ μ') (hh : hi ≤ f ∨ f + 181 ≤ lo) : BZ (mI μ') f := h.cg (fun r hr => by rw [(hf.2 (ro f r + 1) (by unfold ro; omega)).1]) (fun t d ht hd => by rw [(hf.2 (wy f t d) (by unfold wy; omega)).1])
/-- what stays of the class's memory where only its fabric changes, and nothing is sent -/
def FrF (f : Nat) (μ μ' : mM) : Prop := Fr f (f + 181) μ μ' ∧ (∀ t d, t < 10 → d < 2 → mI μ' (wy f t d + 5) = mI μ (wy f t d + 5)) ∧ (BZ (mI μ) f → BZ (mI μ') f)
theorem FrF.refl (f : Nat) (μ : mM) : FrF f μ μ := ⟨Fr.refl _ _ _, fun _ _ _ _ => rfl, id⟩
theorem FrF.trans {f : Nat} {μ μ1 μ2 : mM} (h1 : FrF f μ μ1) (h2 : FrF f μ1 μ2) : FrF f μ μ2 := ⟨h1.1.trans h2.1, fun t d a b => (h2.2.1 t d a b).trans (h1.2.1 t d a b), fun h => h2.2.2 (h1.2.2 h)⟩
theorem BZ_UI {f q k : Nat} {μ : mM} {x : Int32} (h1 : ∀ r, r < 8 → ¬ (ro f r + 1 = q ∧ 1 = k)) (h2 : ∀ t d, t < 10 → d < 2 → ¬ (wy f t d = q ∧ 0 = k)) (h : BZ (mI μ) f) : BZ (mI (mUI μ q k x)) f := h.cg (fun r hr => by rw [mI_UI, if_neg (h1 r hr)]) (fun t d ht hd => by rw [mI_UI, if_neg (h2 t d ht hd)])
theorem BZ_UI1 {f q k : Nat} {μ : mM} {x : Int32} (hx : x = nI 0 ∨ x = nI 1) (h : BZ (mI μ) f) : BZ (mI (mUI μ q k x)) f := by
  refine ⟨fun r hr => ?_, fun t d ht hd => ?_⟩
  · rw [mI_UI]; split
    · exact hx
    · exact h.1 r hr
  · rw [mI_UI]; split
    · exact hx
    · exact h.2 t d ht hd
theorem FrF_tu {f t k : Nat} {μ : mM} {x : Int32} (ht : t < 10) : FrF f μ (mUI μ (tu f t) k x) := ⟨Fr_UI μ (by unfold tu; omega) (by unfold tu; omega) k x, fun a d ha hd => mI_UIr (by (simp only [tu, wy]) <;> omega), BZ_UI (fun r hr => by unfold ro tu; omega) (fun a d ha hd => by unfold wy tu; omega)⟩
theorem FrF_wy {f t d j k : Nat} {μ : mM} {x : Int32} (ht : t < 10) (hd : d < 2) (hj : j < 5) (hx : ¬ (j = 0 ∧ k = 0) ∨ x = nI 0 ∨ x = nI 1) : FrF f μ (mUI μ (wy f t d + j) k x) := ⟨Fr_UI μ (by unfold wy; omega) (by unfold wy; omega) k x, fun a b ha hb => mI_UIr (by
  have h1 : b = 0 ∨ b = 1 := by omega
  have h2 : d = 0 ∨ d = 1 := by omega
  unfold wy; omega), fun h => by
  rcases hx with hx | hx
  · refine BZ_UI (fun r hr => ?_) (fun a b ha hb => ?_) h
    · unfold ro wy; omega
    · have h1 : b = 0 ∨ b = 1 := by omega
      have h2 : d = 0 ∨ d = 1 := by omega
      unfold wy; omega
  · exact BZ_UI1 hx h⟩
theorem FrF_ro {f r j k : Nat} {μ : mM} {x : Int32} (hr : r < 8) (hj : j < 6) (hx : ¬ (j = 1 ∧ k = 1) ∨ x = nI 0 ∨ x = nI 1) : FrF f μ (mUI μ (ro f r + j) k x) := ⟨Fr_UI μ (by unfold ro; omega) (by unfold ro; omega) k x, fun a d ha hd => mI_UIr (by (simp only [ro, wy]) <;> omega), fun h => by
  rcases hx with hx | hx
  · refine BZ_UI (fun a ha => ?_) (fun a b ha hb => ?_) h
    · unfold ro; omega
    · unfold ro wy; omega
  · exact BZ_UI1 hx h⟩
theorem FrF_f {f k : Nat} {μ : mM} {x : Int32} : FrF f μ (mUI μ f k x) := ⟨Fr_UI μ (by omega) (by omega) k x, fun a d ha hd => mI_UIr (by (simp only [wy]) <;> omega), BZ_UI (fun r hr => by unfold ro; omega) (fun a d ha hd => by unfold wy; omega)⟩
theorem FrF_UF {f r j k : Nat} {μ : mM} {x : UInt32} (hr : r < 8) (hj : j < 6) : FrF f μ (mUF μ (ro f r + j) k x) := ⟨Fr_UF μ (by unfold ro; omega) (by unfold ro; omega) k x, fun a d ha hd => rfl, id⟩
section DI
variable {μ μ' : mM} {A A' : Ab} {f r k t d h q v : Nat} {o : Int32}
theorem WFt.cg (ht : WFt A) (h : A'.1 = A.1) (hl : A'.2.2.2.2 = A.2.2.2.2) : WFt A' := by
  have e : ∀ r k, aR A' r k = aR A r k := fun r k => by show A'.1 r k = _; rw [h]
  have e2 : ∀ r d, aL A' r d = aL A r d := fun r k => by show A'.2.2.2.2 r k = _; rw [hl]
  unfold WFt WFr at *
  simp only [e, e2, dep_cg (fun r => e r 3)]
  exact ht
theorem rsv_setG (htt : t < 10) : rsv (setT A t 4 v) r + (if us A t r 0 = true ∧ aT A t 1 = 0 then aT A t 4 else 0) = rsv A r + (if us A t r 0 = true ∧ aT A t 1 = 0 then v else 0) := by
  have e : ∀ a, us (setT A t 4 v) a r 0 = us A a r 0 := fun a => us_cg (fun _ => rfl) (by rw [aT_setT, if_neg (by omega)]) (by rw [aT_setT, if_neg (by omega)]) (by rw [aT_setT, if_neg (by omega)])
  unfold rsv
  have := sumN_one (g := fun a => if us A a r 0 = true ∧ aT A a 1 = 0 then aT A a 4 else 0) (g' := fun a => if us (setT A t 4 v) a r 0 = true ∧ aT (setT A t 4 v) a 1 = 0 then aT (setT A t 4 v) a 4 else 0) (t := t) (n := 10) htt (fun i hi hn => by
    simp only [e, aT_setT, hn, false_and, if_false])
  simp only [e, aT_setT, and_true, show ¬ (1 : Nat) = 4 by omega, and_false, if_false, if_true, true_and] at this ⊢
  exact this
/-- a tunnel's wanted and granted bandwidth changed -/
theorem wfu_setG {w : Nat} (hu : WFu A) (htt : t < 10) (ho : aT A t 0 = 1) (hw1 : 1 ≤ w) (hw2 : w ≤ 12) (hv : v ≤ w) (hr : ∀ r, 1 ≤ r → r < 8 → aR A r 0 = 1 → rsv (setT A t 4 v) r < cap A r 0) : WFu (setT (setT A t 3 w) t 4 v) := by
  have g0 : ∀ a, aT (setT (setT A t 3 w) t 4 v) a 0 = aT A a 0 := fun a => by rw [aT_setT, if_neg (by omega), aT_setT, if_neg (by omega)]
  have g1 : ∀ a, aT (setT (setT A t 3 w) t 4 v) a 1 = aT A a 1 := fun a => by rw [aT_setT, if_neg (by omega), aT_setT, if_neg (by omega)]
  have g2 : ∀ a, aT (setT (setT A t 3 w) t 4 v) a 2 = aT A a 2 := fun a => by rw [aT_setT, if_neg (by omega), aT_setT, if_neg (by omega)]
  have gn : ∀ a d, wN (setT (setT A t 3 w) t 4 v) a d = wN A a d := fun a d => wN_cg (fun _ => rfl) (g1 a) (g2 a)
  refine ⟨fun a ha => by rw [g0]; exact hu.1 a ha, hu.2.1, fun a ha hao => ?_, fun r h1 h2 h3 => ?_, fun k hk => ?_⟩
  · rw [g0] at hao
    obtain ⟨o1, o2, o3, o4, o5, o6, o7, o8, o9, o10, o11, o12⟩ := hu.o ha hao
    refine ⟨by rw [g1]; exact o1, by rw [g2]; exact o2, by rw [g2]; exact o3, by rw [g2]; exact o4, by rw [g1, g2]; exact o5, ?_, ?_, ?_, o9, fun d h b c => o10 d h b (by rw [gn] at c; exact c), fun d h k b c e g => o11 d h k b c e (by rw [gn] at g; exact g), by rw [g1]; exact o12⟩
    · rw [aT_setT, if_neg (by omega), aT_setT]; by_cases q : a = t
      · rw [if_pos ⟨q, rfl⟩]; exact hw1
      · rw [if_neg (fun z => q z.1)]; exact o6
    · rw [aT_setT, if_neg (by omega), aT_setT]; by_cases q : a = t
      · rw [if_pos ⟨q, rfl⟩]; exact hw2
      · rw [if_neg (fun z => q z.1)]; exact o7
    · rw [aT_setT, aT_setT (k := 4), if_neg (show ¬ (a = t ∧ 3 = 4) by omega), aT_setT, aT_setT, if_neg (show ¬ (a = t ∧ 4 = 3) by omega)]; by_cases q : a = t
      · rw [if_pos ⟨q, rfl⟩, if_pos ⟨q, rfl⟩]; exact hv
      · rw [if_neg (fun z => q z.1), if_neg (fun z => q z.1)]; exact o8
  · have e : rsv (setT (setT A t 3 w) t 4 v) r = rsv (setT A t 4 v) r := by
      unfold rsv
      refine sumN_congr (fun a ha => ?_)
      have e1 : us (setT (setT A t 3 w) t 4 v) a r 0 = us (setT A t 4 v) a r 0 := us_cg (fun _ => rfl) (by rw [g0, aT_setT, if_neg (by omega)]) (by rw [g1, aT_setT, if_neg (by omega)]) (by rw [g2, aT_setT, if_neg (by omega)])
      rw [e1, g1]
      simp only [aT_setT, show ¬ (4 : Nat) = 3 by omega, show ¬ (1 : Nat) = 4 by omega, and_false, if_false]
    rw [e, cap_cg (fun _ => rfl) (fun _ => rfl) rfl]; exact hr r h1 h2 h3
  · have e : opN (setT (setT A t 3 w) t 4 v) k = opN A k := by
      unfold opN; simp only [g0, g1]
    rw [e]; exact hu.2.2.2.2 k hk
/-- an open video tunnel opened after o -/
def vB (A : Ab) (o : Int32) (t : Nat) : Bool := (aT A t 0 == 1) && (aT A t 1 == 0) && decide (o < nI (aT A t 5))
/-- the next of them -/
def nxV (A : Ab) (o : Int32) : Nat → Option Nat
  | 0 => none
  | n + 1 => if vB A o n = true then (match nxV A o n with
    | none => some n
    | some b => if nI (aT A b 5) ≤ nI (aT A n 5) then some b else some n) else nxV A o n
theorem nxV_some : ∀ {n b : Nat}, nxV A o n = some b → b < n ∧ vB A o b = true
  | 0, b, h => by cases h
  | n + 1, b, h => by
    unfold nxV at h
    by_cases e : vB A o n = true
    · rw [if_pos e] at h
      cases e2 : nxV A o n with
      | none => rw [e2] at h; cases h; exact ⟨by omega, e⟩
      | some c =>
        rw [e2] at h
        have := nxV_some e2
        simp only at h
        by_cases e3 : nI (aT A c 5) ≤ nI (aT A n 5)
        · rw [if_pos e3] at h; cases h; exact ⟨by omega, this.2⟩
        · rw [if_neg e3] at h; cases h; exact ⟨by omega, e⟩
    · rw [if_neg e] at h
      have := nxV_some h
      exact ⟨by omega, this.2⟩
def cntV (A : Ab) (o : Int32) : Nat := sumN (fun t => if vB A o t = true then 1 else 0) 10
theorem cntV_le : cntV A o ≤ 10 := by
  have := sumN_le (g := fun t => if vB A o t = true then 1 else 0) (h := fun _ => 1) (n := 10) (fun i _ => by show (if vB A o i = true then 1 else 0) ≤ 1; split <;> omega)
  rw [sumN_const] at this
  exact this
theorem vB_iff : vB A o t = true ↔ aT A t 0 = 1 ∧ aT A t 1 = 0 ∧ o < nI (aT A t 5) := by
  unfold vB
  simp only [Bool.and_eq_true, beq_iff_eq, decide_eq_true_eq, and_assoc]
theorem cntV_lt {b : Nat} (h : nxV A o 10 = some b) : cntV A (nI (aT A b 5)) < cntV A o := by
  obtain ⟨h1, h2⟩ := nxV_some h
  refine sumN_lt (t := b) h1 (fun i hi => ?_) ?_
  · show (if vB A (nI (aT A b 5)) i = true then 1 else 0) ≤ (if vB A o i = true then 1 else 0)
    by_cases e : vB A (nI (aT A b 5)) i = true
    · have e2 : vB A o i = true := by
        rw [vB_iff] at e h2 ⊢
        refine ⟨e.1, e.2.1, ?_⟩
        have a := e.2.2
        have b := h2.2.2
        rw [Int32.lt_iff_toInt_lt] at a b ⊢
        omega
      rw [if_pos e, if_pos e2]; omega
    · rw [if_neg e]; omega
  · have e : ¬ vB A (nI (aT A b 5)) b = true := by
      rw [vB_iff]
      rintro ⟨-, -, c⟩
      rw [Int32.lt_iff_toInt_lt] at c
      omega
    simp only [e, h2, if_true, Bool.false_eq_true, if_false]; omega
/-- one tunnel gets what its path has room for -/
def stD (A : Ab) (t : Nat) : Ab := if aT A t 3 ≤ aT A t 4 then A else setT A t 4 (aT A t 4 + min (aT A t 3 - aT A t 4) (rmK A (aT A t 2) (dep A (aT A t 2))))
theorem rmK_spr {n : Nat} : ∀ {m : Nat}, n < m → rmK A d m ≤ cap A (anc A d n) 0 - 1 - rsv A (anc A d n)
  | 0, h => by omega
  | m + 1, h => by
    show min (rmK A d m) (cap A (anc A d m) 0 - 1 - rsv A (anc A d m)) ≤ _
    by_cases e : n = m
    · subst e; omega
    · have := rmK_spr (show n < m by omega); omega
theorem rm_on (ht : WFt A) (hu : WFu A) (htt : t < 10) (hus : us A t r 0 = true) : rmK A (aT A t 2) (dep A (aT A t 2)) ≤ cap A r 0 - 1 - rsv A r := by
  obtain ⟨u1, u2, -⟩ := us_iff.mp hus
  obtain ⟨-, -, o3, o4, -⟩ := hu.o htt u1
  obtain ⟨a1, a2, a3, a4, a5, a6⟩ := ht.on o3 o4 u2
  have := rmK_spr (A := A) (d := aT A t 2) (n := dep A (aT A t 2) - dep A r) (m := dep A (aT A t 2)) (by omega)
  rw [a6] at this
  exact this
theorem stD_eq : (stD A t).1 = A.1 ∧ (stD A t).2.2 = A.2.2 ∧ ∀ a k, ¬ k = 4 → aT (stD A t) a k = aT A a k := by
  unfold stD
  split
  · exact ⟨rfl, rfl, fun _ _ _ => rfl⟩
  · exact ⟨rfl, rfl, fun a k hk => by rw [aT_setT, if_neg (fun z => hk z.2)]⟩
theorem stD_wft (ht : WFt A) : WFt (stD A t) := ht.cg stD_eq.1 (by rw [stD_eq.2.1])
theorem setT_same : setT A t k (aT A t k) = A := by
  have : up2 A.2.1 t k (aT A t k) = A.2.1 := by
    funext a b; unfold up2
    split
    · next h => rw [h.1, h.2]
    · rfl
  unfold setT; rw [this]
theorem stD_wfu (ht : WFt A) (hu : WFu A) (htt : t < 10) (ho : aT A t 0 = 1) : WFu (stD A t) := by
  obtain ⟨o1, o2, o3, o4, o5, o6, o7, o8, -⟩ := hu.o htt ho
  unfold stD
  split
  · exact hu
  · next hg =>
    have := wfu_setG (v := aT A t 4 + min (aT A t 3 - aT A t 4) (rmK A (aT A t 2) (dep A (aT A t 2)))) hu htt ho o6 o7 (by omega) (fun r h1 hr hp => by
      have e := rsv_setG (A := A) (r := r) (v := aT A t 4 + min (aT A t 3 - aT A t 4) (rmK A (aT A t 2) (dep A (aT A t 2)))) htt
      have hv := hu.rsv h1 hr hp
      by_cases e2 : us A t r 0 = true ∧ aT A t 1 = 0
      · rw [if_pos e2, if_pos e2] at e
        have := rm_on ht hu htt e2.1
        omega
      · rw [if_neg e2, if_neg e2] at e
        omega)
    rw [setT_same] at this
    exact this
/-- the distribution: n tunnels, those opened after o -/
def dN : Nat → Int32 → Ab → Ab
  | 0, _, A => A
  | n + 1, o, A => match nxV A o 10 with
    | none => A
    | some t => dN n (nI (aT A t 5)) (stD A t)
def dist (A : Ab) : Ab := dN 10 (-nI 1) A
theorem dN_none {n : Nat} (h : nxV A o 10 = none) : dN n o A = A := by
  cases n with
  | zero => rfl
  | succ n => show (match nxV A o 10 with | none => A | some t => dN n (nI (aT A t 5)) (stD A t)) = A; rw [h]
theorem dN_some {n : Nat} (h : nxV A o 10 = some t) : dN (n + 1) o A = dN n (nI (aT A t 5)) (stD A t) := by
  show (match nxV A o 10 with | none => A | some t => dN n (nI (aT A t 5)) (stD A t)) = _; rw [h]
theorem dN_eq : ∀ {n : Nat} {o : Int32} {A : Ab}, (dN n o A).1 = A.1 ∧ (dN n o A).2.2 = A.2.2 ∧ ∀ a k, ¬ k = 4 → aT (dN n o A) a k = aT A a k
  | 0, o, A => ⟨rfl, rfl, fun _ _ _ => rfl⟩
  | n + 1, o, A => by
    cases h : nxV A o 10 with
    | none => rw [dN_none h]; exact ⟨rfl, rfl, fun _ _ _ => rfl⟩
    | some t =>
      rw [dN_some h]
      obtain ⟨h1, h2, h3⟩ := dN_eq (n := n) (o := nI (aT A t 5)) (A := stD A t)
      obtain ⟨g1, g2, g3⟩ := stD_eq (A := A) (t := t)
      exact ⟨h1.trans g1, h2.trans g2, fun a k hk => (h3 a k hk).trans (g3 a k hk)⟩
theorem dN_wf : ∀ {n : Nat} {o : Int32} {A : Ab}, WFt A → WFu A → WFt (dN n o A) ∧ WFu (dN n o A)
  | 0, o, A, ht, hu => ⟨ht, hu⟩
  | n + 1, o, A, ht, hu => by
    cases h : nxV A o 10 with
    | none => rw [dN_none h]; exact ⟨ht, hu⟩
    | some t =>
      rw [dN_some h]
      obtain ⟨h1, h2⟩ := nxV_some h
      exact dN_wf (stD_wft ht) (stD_wfu ht hu h1 (vB_iff.mp h2).1)
theorem j35 (hC : CS μ f A) (hu : WFu A) : s35 μ f o = some (match nxV A o 10 with | none => 0 | some b => tu f b) := by
  have hF := hC.1
  have e : mLoop (s35L4 μ f o) 1000 (0, nI 0) = some (.inl (match nxV A o 10 with | none => 0 | some b => tu f b)) := mLoop_seq0 (b := s35L4 μ f o) (fun i => ((match nxV A o i with | none => 0 | some b => tu f b), nI i)) 10 (fun i hi => by
    have h1 := hu.le1 hi
    by_cases e1 : aT A i 0 = 1 ∧ aT A i 1 = 0
    · have e2 : ((aT A i 0 == 1) && (aT A i 1 == 0)) = true := by simp [e1.1, e1.2]
      by_cases e3 : nI (aT A i 5) ≤ o
      · have e4 : ¬ vB A o i = true := by
          rw [vB_iff]; rintro ⟨-, -, c⟩
          rw [Int32.lt_iff_toInt_lt] at c
          rw [Int32.le_iff_toInt_le] at e3
          omega
        have e5 : nxV A o (i + 1) = nxV A o i := by show (if vB A o i = true then _ else nxV A o i) = _; rw [if_neg e4]
        rw [e5]
        simp (disch := omega) only [s35L4_34, s35L4_32, s35L4_22, s35L4_21, s35L4, s35, FabL.s0 hF, FabL.p0 hF, FabL.p1 hF, FabL.s1 hF, FabL.s2 hF, FabL.r hF, FabL.rs hF, FabL.rl hF, FabL.ls hF, FabL.l5 hF, FabL.l6 hF, FabL.l7 hF, FabL.l8 hF, FabL.q2 hF, FabL.q3 hF, FabL.q4 hF, FabL.q5 hF, FabL.tp hF, FabL.ts hF, FabL.td hF, FabL.tw hF, FabL.ws hF, FabL.w4 hF, FabL.w5 hF, FabL.w6 hF, FabL.w7 hF, FabL.w8 hF, FabL.v1 hF, FabL.v2 hF, FabL.v3 hF, FabL.v4 hF, FabL.v5 hF, j80 hC hu, RepC.t5 hC.2, Option.bind_some, Sum.elim_inl, Sum.elim_inr, reduceIte, if_true, if_false, ite_true, ite_false, not_true_eq_false, not_false_eq_true, or_true, true_or, or_false, false_or, and_true, true_and, and_false, false_and, eq_self, ne_eq, Nat.reduceAdd, Nat.reduceMul, Nat.le_refl, ite_self, Nat.reduceEqDiff, Nat.reduceLeDiff, Nat.reduceLT, L_0, L_1, L_2, L_3, L_4, L_5, L_6, L_7, L_8, L_9, L_10, L_11, L_12, L_13, L_14, L_15, L_16, L_24, L_31, L_40, L_48, L_49, L_50, L_51, L_60, L_72, L_99, L_127, L_132, L_172, L_412, L_428, L_429, L_430, L_431, L_432, L_433, L_1000, nI_add, nI_mul, nI_leI, nI_ltI, nI_eq, m_cl, mInb_iff, nI_ng, ng_nI, ng_ng, nI_lt_ng, ng_lt_nI, nI_le_ng, ng_le_nI, bI_0, e1.1, e1.2, beq_self_eq_true, Bool.and_self, e3, show ¬ 10 ≤ i by omega, hi, Bool.true_eq_false]
      · have e4 : vB A o i = true := by
          rw [vB_iff]; refine ⟨e1.1, e1.2, ?_⟩
          rw [Int32.le_iff_toInt_le] at e3
          rw [Int32.lt_iff_toInt_lt]
          omega
        cases e6 : nxV A o i with
        | none =>
          have e5 : nxV A o (i + 1) = some i := by show (if vB A o i = true then _ else nxV A o i) = _; rw [if_pos e4, e6]
          rw [e5]
          simp (disch := omega) only [s35L4_34, s35L4_32, s35L4_22, s35L4_21, s35L4, s35, FabL.s0 hF, FabL.p0 hF, FabL.p1 hF, FabL.s1 hF, FabL.s2 hF, FabL.r hF, FabL.rs hF, FabL.rl hF, FabL.ls hF, FabL.l5 hF, FabL.l6 hF, FabL.l7 hF, FabL.l8 hF, FabL.q2 hF, FabL.q3 hF, FabL.q4 hF, FabL.q5 hF, FabL.tp hF, FabL.ts hF, FabL.td hF, FabL.tw hF, FabL.ws hF, FabL.w4 hF, FabL.w5 hF, FabL.w6 hF, FabL.w7 hF, FabL.w8 hF, FabL.v1 hF, FabL.v2 hF, FabL.v3 hF, FabL.v4 hF, FabL.v5 hF, j80 hC hu, RepC.t5 hC.2, Option.bind_some, Sum.elim_inl, Sum.elim_inr, reduceIte, if_true, if_false, ite_true, ite_false, not_true_eq_false, not_false_eq_true, or_true, true_or, or_false, false_or, and_true, true_and, and_false, false_and, eq_self, ne_eq, Nat.reduceAdd, Nat.reduceMul, Nat.le_refl, ite_self, Nat.reduceEqDiff, Nat.reduceLeDiff, Nat.reduceLT, L_0, L_1, L_2, L_3, L_4, L_5, L_6, L_7, L_8, L_9, L_10, L_11, L_12, L_13, L_14, L_15, L_16, L_24, L_31, L_40, L_48, L_49, L_50, L_51, L_60, L_72, L_99, L_127, L_132, L_172, L_412, L_428, L_429, L_430, L_431, L_432, L_433, L_1000, nI_add, nI_mul, nI_leI, nI_ltI, nI_eq, m_cl, mInb_iff, nI_ng, ng_nI, ng_ng, nI_lt_ng, ng_lt_nI, nI_le_ng, ng_le_nI, bI_0, e1.1, e1.2, beq_self_eq_true, Bool.and_self, e3, show ¬ 10 ≤ i by omega, hi, Bool.true_eq_false]
        | some b =>
          obtain ⟨g1, g2⟩ := nxV_some e6
          obtain ⟨g3, -⟩ := vB_iff.mp g2
          have g4 : ¬ tu f b = 0 := by unfold tu; omega
          by_cases e7 : nI (aT A b 5) ≤ nI (aT A i 5)
          · have e5 : nxV A o (i + 1) = some b := by show (if vB A o i = true then _ else nxV A o i) = _; rw [if_pos e4, e6]; simp only; rw [if_pos e7]
            rw [e5]
            simp (disch := omega) only [s35L4_34, s35L4_32, s35L4_22, s35L4_21, s35L4, s35, FabL.s0 hF, FabL.p0 hF, FabL.p1 hF, FabL.s1 hF, FabL.s2 hF, FabL.r hF, FabL.rs hF, FabL.rl hF, FabL.ls hF, FabL.l5 hF, FabL.l6 hF, FabL.l7 hF, FabL.l8 hF, FabL.q2 hF, FabL.q3 hF, FabL.q4 hF, FabL.q5 hF, FabL.tp hF, FabL.ts hF, FabL.td hF, FabL.tw hF, FabL.ws hF, FabL.w4 hF, FabL.w5 hF, FabL.w6 hF, FabL.w7 hF, FabL.w8 hF, FabL.v1 hF, FabL.v2 hF, FabL.v3 hF, FabL.v4 hF, FabL.v5 hF, j80 hC hu, RepC.t5 hC.2, Option.bind_some, Sum.elim_inl, Sum.elim_inr, reduceIte, if_true, if_false, ite_true, ite_false, not_true_eq_false, not_false_eq_true, or_true, true_or, or_false, false_or, and_true, true_and, and_false, false_and, eq_self, ne_eq, Nat.reduceAdd, Nat.reduceMul, Nat.le_refl, ite_self, Nat.reduceEqDiff, Nat.reduceLeDiff, Nat.reduceLT, L_0, L_1, L_2, L_3, L_4, L_5, L_6, L_7, L_8, L_9, L_10, L_11, L_12, L_13, L_14, L_15, L_16, L_24, L_31, L_40, L_48, L_49, L_50, L_51, L_60, L_72, L_99, L_127, L_132, L_172, L_412, L_428, L_429, L_430, L_431, L_432, L_433, L_1000, nI_add, nI_mul, nI_leI, nI_ltI, nI_eq, m_cl, mInb_iff, nI_ng, ng_nI, ng_ng, nI_lt_ng, ng_lt_nI, nI_le_ng, ng_le_nI, bI_0, e1.1, e1.2, beq_self_eq_true, Bool.and_self, g3, g4, e3, e7, show ¬ 10 ≤ i by omega, hi, Bool.true_eq_false]
          · have e5 : nxV A o (i + 1) = some i := by show (if vB A o i = true then _ else nxV A o i) = _; rw [if_pos e4, e6]; simp only; rw [if_neg e7]
            rw [e5]
            simp (disch := omega) only [s35L4_34, s35L4_32, s35L4_22, s35L4_21, s35L4, s35, FabL.s0 hF, FabL.p0 hF, FabL.p1 hF, FabL.s1 hF, FabL.s2 hF, FabL.r hF, FabL.rs hF, FabL.rl hF, FabL.ls hF, FabL.l5 hF, FabL.l6 hF, FabL.l7 hF, FabL.l8 hF, FabL.q2 hF, FabL.q3 hF, FabL.q4 hF, FabL.q5 hF, FabL.tp hF, FabL.ts hF, FabL.td hF, FabL.tw hF, FabL.ws hF, FabL.w4 hF, FabL.w5 hF, FabL.w6 hF, FabL.w7 hF, FabL.w8 hF, FabL.v1 hF, FabL.v2 hF, FabL.v3 hF, FabL.v4 hF, FabL.v5 hF, j80 hC hu, RepC.t5 hC.2, Option.bind_some, Sum.elim_inl, Sum.elim_inr, reduceIte, if_true, if_false, ite_true, ite_false, not_true_eq_false, not_false_eq_true, or_true, true_or, or_false, false_or, and_true, true_and, and_false, false_and, eq_self, ne_eq, Nat.reduceAdd, Nat.reduceMul, Nat.le_refl, ite_self, Nat.reduceEqDiff, Nat.reduceLeDiff, Nat.reduceLT, L_0, L_1, L_2, L_3, L_4, L_5, L_6, L_7, L_8, L_9, L_10, L_11, L_12, L_13, L_14, L_15, L_16, L_24, L_31, L_40, L_48, L_49, L_50, L_51, L_60, L_72, L_99, L_127, L_132, L_172, L_412, L_428, L_429, L_430, L_431, L_432, L_433, L_1000, nI_add, nI_mul, nI_leI, nI_ltI, nI_eq, m_cl, mInb_iff, nI_ng, ng_nI, ng_ng, nI_lt_ng, ng_lt_nI, nI_le_ng, ng_le_nI, bI_0, e1.1, e1.2, beq_self_eq_true, Bool.and_self, g3, g4, e3, e7, show ¬ 10 ≤ i by omega, hi, Bool.true_eq_false]
    · have e2 : ((aT A i 0 == 1) && (aT A i 1 == 0)) = false := by
        cases h : ((aT A i 0 == 1) && (aT A i 1 == 0))
        · rfl
        · simp at h; exact absurd h e1
      have e4 : ¬ vB A o i = true := by
        rw [vB_iff]; rintro ⟨a, b, c⟩; exact e1 ⟨a, b⟩
      have e5 : nxV A o (i + 1) = nxV A o i := by show (if vB A o i = true then _ else nxV A o i) = _; rw [if_neg e4]
      rw [e5]
      simp (disch := omega) only [s35L4_34, s35L4_32, s35L4_22, s35L4_21, s35L4, s35, FabL.s0 hF, FabL.p0 hF, FabL.p1 hF, FabL.s1 hF, FabL.s2 hF, FabL.r hF, FabL.rs hF, FabL.rl hF, FabL.ls hF, FabL.l5 hF, FabL.l6 hF, FabL.l7 hF, FabL.l8 hF, FabL.q2 hF, FabL.q3 hF, FabL.q4 hF, FabL.q5 hF, FabL.tp hF, FabL.ts hF, FabL.td hF, FabL.tw hF, FabL.ws hF, FabL.w4 hF, FabL.w5 hF, FabL.w6 hF, FabL.w7 hF, FabL.w8 hF, FabL.v1 hF, FabL.v2 hF, FabL.v3 hF, FabL.v4 hF, FabL.v5 hF, j80 hC hu, e2, Option.bind_some, Sum.elim_inl, Sum.elim_inr, reduceIte, if_true, if_false, ite_true, ite_false, not_true_eq_false, not_false_eq_true, or_true, true_or, or_false, false_or, and_true, true_and, and_false, false_and, eq_self, ne_eq, Nat.reduceAdd, Nat.reduceMul, Nat.le_refl, ite_self, Nat.reduceEqDiff, Nat.reduceLeDiff, Nat.reduceLT, L_0, L_1, L_2, L_3, L_4, L_5, L_6, L_7, L_8, L_9, L_10, L_11, L_12, L_13, L_14, L_15, L_16, L_24, L_31, L_40, L_48, L_49, L_50, L_51, L_60, L_72, L_99, L_127, L_132, L_172, L_412, L_428, L_429, L_430, L_431, L_432, L_433, L_1000, nI_add, nI_mul, nI_leI, nI_ltI, nI_eq, m_cl, mInb_iff, nI_ng, ng_nI, ng_ng, nI_lt_ng, ng_lt_nI, nI_le_ng, ng_le_nI, bI_0, show ¬ 10 ≤ i by omega, hi]) (by
    simp (disch := omega) only [s35L4, Option.bind_some, Sum.elim_inl, Sum.elim_inr, reduceIte, if_true, if_false, ite_true, ite_false, not_true_eq_false, not_false_eq_true, or_true, true_or, or_false, false_or, and_true, true_and, and_false, false_and, eq_self, ne_eq, Nat.reduceAdd, Nat.reduceMul, Nat.le_refl, ite_self, Nat.reduceEqDiff, Nat.reduceLeDiff, Nat.reduceLT, L_0, L_1, L_2, L_3, L_4, L_5, L_6, L_7, L_8, L_9, L_10, L_11, L_12, L_13, L_14, L_15, L_16, L_24, L_31, L_40, L_48, L_49, L_50, L_51, L_60, L_72, L_99, L_127, L_132, L_172, L_412, L_428, L_429, L_430, L_431, L_432, L_433, L_1000, nI_add, nI_mul, nI_leI, nI_ltI, nI_eq, m_cl, mInb_iff, nI_ng, ng_nI, ng_ng, nI_lt_ng, ng_lt_nI, nI_le_ng, ng_le_nI]) (n := 1000) (by omega)
  simp (disch := omega) only [s35, Option.bind_some, Sum.elim_inl, Sum.elim_inr, reduceIte, if_true, if_false, ite_true, ite_false, not_true_eq_false, not_false_eq_true, or_true, true_or, or_false, false_or, and_true, true_and, and_false, false_and, eq_self, ne_eq, Nat.reduceAdd, Nat.reduceMul, Nat.le_refl, ite_self, Nat.reduceEqDiff, Nat.reduceLeDiff, Nat.reduceLT, L_0, L_1, L_2, L_3, L_4, L_5, L_6, L_7, L_8, L_9, L_10, L_11, L_12, L_13, L_14, L_15, L_16, L_24, L_31, L_40, L_48, L_49, L_50, L_51, L_60, L_72, L_99, L_127, L_132, L_172, L_412, L_428, L_429, L_430, L_431, L_432, L_433, L_1000, nI_add, nI_mul, nI_leI, nI_ltI, nI_eq, m_cl, mInb_iff, nI_ng, ng_nI, ng_ng, nI_lt_ng, ng_lt_nI, nI_le_ng, ng_le_nI, e]
theorem k170 (hM : RS μ A) (hu : WFu A) : s170 μ 200 o = some (match nxV A o 10 with | none => -nI 10 | some b => nI b) := by
  have hR := hM.1
  have e : mLoop (s170L4 μ 200 o) 1000 (-nI 10, nI 0) = some (.inl (match nxV A o 10 with | none => -nI 10 | some b => nI b)) := mLoop_seq0 (b := s170L4 μ 200 o) (fun i => ((match nxV A o i with | none => -nI 10 | some b => nI b), nI i)) 10 (fun i hi => by
    have h1 := hu.le1 hi
    by_cases e1 : aT A i 0 = 1
    · obtain ⟨o1, -⟩ := hu.o hi e1
      by_cases e2 : aT A i 1 = 0
      · by_cases e3 : nI (aT A i 5) ≤ o
        · have e4 : ¬ vB A o i = true := by
            rw [vB_iff]; rintro ⟨-, -, c⟩
            rw [Int32.lt_iff_toInt_lt] at c
            rw [Int32.le_iff_toInt_le] at e3
            omega
          have e5 : nxV A o (i + 1) = nxV A o i := by show (if vB A o i = true then _ else nxV A o i) = _; rw [if_neg e4]
          rw [e5]
          simp (disch := omega) only [s170L4_45, s170L4_44, s170L4_42, s170L4_27, s170L4_26, s170L4, s170, RefL.s hR, RefL.r0 hR, RefL.r1 hR, RefL.r2 hR, RefL.r3 hR, RefL.r4 hR, RefL.r5 hR, RefL.r7 hR, RefL.r8 hR, RefL.r9 hR, RefL.r10 hR, RefL.r12 hR, RefL.r13 hR, RefL.r14 hR, RefL.r15 hR, RefL.r16 hR, RefL.r17 hR, RefL.r18 hR, RefL.r19 hR, RefL.a0 hR, RefL.a1 hR, RefL.a2 hR, RefL.a3 hR, RefL.a4 hR, RefL.a5 hR, RefL.a7 hR, RefL.a8 hR, RefL.a9 hR, RefL.a10 hR, RefL.a12 hR, RefL.a13 hR, RefL.a14 hR, RefL.a15 hR, RefL.a16 hR, RefL.a17 hR, RefL.a18 hR, RefL.a19 hR, k159 hM, Option.bind_some, Sum.elim_inl, Sum.elim_inr, reduceIte, if_true, if_false, ite_true, ite_false, not_true_eq_false, not_false_eq_true, or_true, true_or, or_false, false_or, and_true, true_and, and_false, false_and, eq_self, ne_eq, Nat.reduceAdd, Nat.reduceMul, Nat.le_refl, ite_self, Nat.reduceEqDiff, Nat.reduceLeDiff, Nat.reduceLT, L_0, L_1, L_2, L_3, L_4, L_5, L_6, L_7, L_8, L_9, L_10, L_11, L_12, L_13, L_14, L_15, L_16, L_24, L_31, L_40, L_48, L_49, L_50, L_51, L_60, L_72, L_99, L_127, L_132, L_172, L_412, L_428, L_429, L_430, L_431, L_432, L_433, L_1000, nI_add, nI_mul, nI_leI, nI_ltI, nI_eq, m_cl, mInb_iff, nI_ng, ng_nI, ng_ng, nI_lt_ng, ng_lt_nI, nI_le_ng, ng_le_nI, e1, e2, e3, show ¬ 10 ≤ i by omega]
        · have e4 : vB A o i = true := by
            rw [vB_iff]; refine ⟨e1, e2, ?_⟩
            rw [Int32.le_iff_toInt_le] at e3
            rw [Int32.lt_iff_toInt_lt]
            omega
          cases e6 : nxV A o i with
          | none =>
            have e5 : nxV A o (i + 1) = some i := by show (if vB A o i = true then _ else nxV A o i) = _; rw [if_pos e4, e6]
            rw [e5]
            simp (disch := omega) only [s170L4_45, s170L4_44, s170L4_42, s170L4_27, s170L4_26, s170L4, s170, RefL.s hR, RefL.r0 hR, RefL.r1 hR, RefL.r2 hR, RefL.r3 hR, RefL.r4 hR, RefL.r5 hR, RefL.r7 hR, RefL.r8 hR, RefL.r9 hR, RefL.r10 hR, RefL.r12 hR, RefL.r13 hR, RefL.r14 hR, RefL.r15 hR, RefL.r16 hR, RefL.r17 hR, RefL.r18 hR, RefL.r19 hR, RefL.a0 hR, RefL.a1 hR, RefL.a2 hR, RefL.a3 hR, RefL.a4 hR, RefL.a5 hR, RefL.a7 hR, RefL.a8 hR, RefL.a9 hR, RefL.a10 hR, RefL.a12 hR, RefL.a13 hR, RefL.a14 hR, RefL.a15 hR, RefL.a16 hR, RefL.a17 hR, RefL.a18 hR, RefL.a19 hR, k159 hM, Option.bind_some, Sum.elim_inl, Sum.elim_inr, reduceIte, if_true, if_false, ite_true, ite_false, not_true_eq_false, not_false_eq_true, or_true, true_or, or_false, false_or, and_true, true_and, and_false, false_and, eq_self, ne_eq, Nat.reduceAdd, Nat.reduceMul, Nat.le_refl, ite_self, Nat.reduceEqDiff, Nat.reduceLeDiff, Nat.reduceLT, L_0, L_1, L_2, L_3, L_4, L_5, L_6, L_7, L_8, L_9, L_10, L_11, L_12, L_13, L_14, L_15, L_16, L_24, L_31, L_40, L_48, L_49, L_50, L_51, L_60, L_72, L_99, L_127, L_132, L_172, L_412, L_428, L_429, L_430, L_431, L_432, L_433, L_1000, nI_add, nI_mul, nI_leI, nI_ltI, nI_eq, m_cl, mInb_iff, nI_ng, ng_nI, ng_ng, nI_lt_ng, ng_lt_nI, nI_le_ng, ng_le_nI, e1, e2, e3, show ¬ 10 ≤ i by omega]
          | some b =>
            obtain ⟨g1, g2⟩ := nxV_some e6
            by_cases e7 : nI (aT A b 5) ≤ nI (aT A i 5)
            · have e5 : nxV A o (i + 1) = some b := by show (if vB A o i = true then _ else nxV A o i) = _; rw [if_pos e4, e6]; simp only; rw [if_pos e7]
              rw [e5]
              simp (disch := omega) only [s170L4_45, s170L4_44, s170L4_42, s170L4_27, s170L4_26, s170L4, s170, RefL.s hR, RefL.r0 hR, RefL.r1 hR, RefL.r2 hR, RefL.r3 hR, RefL.r4 hR, RefL.r5 hR, RefL.r7 hR, RefL.r8 hR, RefL.r9 hR, RefL.r10 hR, RefL.r12 hR, RefL.r13 hR, RefL.r14 hR, RefL.r15 hR, RefL.r16 hR, RefL.r17 hR, RefL.r18 hR, RefL.r19 hR, RefL.a0 hR, RefL.a1 hR, RefL.a2 hR, RefL.a3 hR, RefL.a4 hR, RefL.a5 hR, RefL.a7 hR, RefL.a8 hR, RefL.a9 hR, RefL.a10 hR, RefL.a12 hR, RefL.a13 hR, RefL.a14 hR, RefL.a15 hR, RefL.a16 hR, RefL.a17 hR, RefL.a18 hR, RefL.a19 hR, k159 hM, Option.bind_some, Sum.elim_inl, Sum.elim_inr, reduceIte, if_true, if_false, ite_true, ite_false, not_true_eq_false, not_false_eq_true, or_true, true_or, or_false, false_or, and_true, true_and, and_false, false_and, eq_self, ne_eq, Nat.reduceAdd, Nat.reduceMul, Nat.le_refl, ite_self, Nat.reduceEqDiff, Nat.reduceLeDiff, Nat.reduceLT, L_0, L_1, L_2, L_3, L_4, L_5, L_6, L_7, L_8, L_9, L_10, L_11, L_12, L_13, L_14, L_15, L_16, L_24, L_31, L_40, L_48, L_49, L_50, L_51, L_60, L_72, L_99, L_127, L_132, L_172, L_412, L_428, L_429, L_430, L_431, L_432, L_433, L_1000, nI_add, nI_mul, nI_leI, nI_ltI, nI_eq, m_cl, mInb_iff, nI_ng, ng_nI, ng_ng, nI_lt_ng, ng_lt_nI, nI_le_ng, ng_le_nI, e1, e2, e3, e7, show ¬ 10 ≤ i by omega]
            · have e5 : nxV A o (i + 1) = some i := by show (if vB A o i = true then _ else nxV A o i) = _; rw [if_pos e4, e6]; simp only; rw [if_neg e7]
              rw [e5]
              simp (disch := omega) only [s170L4_45, s170L4_44, s170L4_42, s170L4_27, s170L4_26, s170L4, s170, RefL.s hR, RefL.r0 hR, RefL.r1 hR, RefL.r2 hR, RefL.r3 hR, RefL.r4 hR, RefL.r5 hR, RefL.r7 hR, RefL.r8 hR, RefL.r9 hR, RefL.r10 hR, RefL.r12 hR, RefL.r13 hR, RefL.r14 hR, RefL.r15 hR, RefL.r16 hR, RefL.r17 hR, RefL.r18 hR, RefL.r19 hR, RefL.a0 hR, RefL.a1 hR, RefL.a2 hR, RefL.a3 hR, RefL.a4 hR, RefL.a5 hR, RefL.a7 hR, RefL.a8 hR, RefL.a9 hR, RefL.a10 hR, RefL.a12 hR, RefL.a13 hR, RefL.a14 hR, RefL.a15 hR, RefL.a16 hR, RefL.a17 hR, RefL.a18 hR, RefL.a19 hR, k159 hM, Option.bind_some, Sum.elim_inl, Sum.elim_inr, reduceIte, if_true, if_false, ite_true, ite_false, not_true_eq_false, not_false_eq_true, or_true, true_or, or_false, false_or, and_true, true_and, and_false, false_and, eq_self, ne_eq, Nat.reduceAdd, Nat.reduceMul, Nat.le_refl, ite_self, Nat.reduceEqDiff, Nat.reduceLeDiff, Nat.reduceLT, L_0, L_1, L_2, L_3, L_4, L_5, L_6, L_7, L_8, L_9, L_10, L_11, L_12, L_13, L_14, L_15, L_16, L_24, L_31, L_40, L_48, L_49, L_50, L_51, L_60, L_72, L_99, L_127, L_132, L_172, L_412, L_428, L_429, L_430, L_431, L_432, L_433, L_1000, nI_add, nI_mul, nI_leI, nI_ltI, nI_eq, m_cl, mInb_iff, nI_ng, ng_nI, ng_ng, nI_lt_ng, ng_lt_nI, nI_le_ng, ng_le_nI, e1, e2, e3, e7, show ¬ 10 ≤ i by omega]
      · have e4 : ¬ vB A o i = true := by
          rw [vB_iff]; rintro ⟨a, b, c⟩; exact e2 b
        have e5 : nxV A o (i + 1) = nxV A o i := by show (if vB A o i = true then _ else nxV A o i) = _; rw [if_neg e4]
        rw [e5]
        simp (disch := omega) only [s170L4_45, s170L4_44, s170L4_42, s170L4_27, s170L4_26, s170L4, s170, RefL.s hR, RefL.r0 hR, RefL.r1 hR, RefL.r2 hR, RefL.r3 hR, RefL.r4 hR, RefL.r5 hR, RefL.r7 hR, RefL.r8 hR, RefL.r9 hR, RefL.r10 hR, RefL.r12 hR, RefL.r13 hR, RefL.r14 hR, RefL.r15 hR, RefL.r16 hR, RefL.r17 hR, RefL.r18 hR, RefL.r19 hR, RefL.a0 hR, RefL.a1 hR, RefL.a2 hR, RefL.a3 hR, RefL.a4 hR, RefL.a5 hR, RefL.a7 hR, RefL.a8 hR, RefL.a9 hR, RefL.a10 hR, RefL.a12 hR, RefL.a13 hR, RefL.a14 hR, RefL.a15 hR, RefL.a16 hR, RefL.a17 hR, RefL.a18 hR, RefL.a19 hR, k159 hM, Option.bind_some, Sum.elim_inl, Sum.elim_inr, reduceIte, if_true, if_false, ite_true, ite_false, not_true_eq_false, not_false_eq_true, or_true, true_or, or_false, false_or, and_true, true_and, and_false, false_and, eq_self, ne_eq, Nat.reduceAdd, Nat.reduceMul, Nat.le_refl, ite_self, Nat.reduceEqDiff, Nat.reduceLeDiff, Nat.reduceLT, L_0, L_1, L_2, L_3, L_4, L_5, L_6, L_7, L_8, L_9, L_10, L_11, L_12, L_13, L_14, L_15, L_16, L_24, L_31, L_40, L_48, L_49, L_50, L_51, L_60, L_72, L_99, L_127, L_132, L_172, L_412, L_428, L_429, L_430, L_431, L_432, L_433, L_1000, nI_add, nI_mul, nI_leI, nI_ltI, nI_eq, m_cl, mInb_iff, nI_ng, ng_nI, ng_ng, nI_lt_ng, ng_lt_nI, nI_le_ng, ng_le_nI, e1, e2, show ¬ 10 ≤ i by omega]
    · have e4 : ¬ vB A o i = true := by
        rw [vB_iff]; rintro ⟨a, b, c⟩; exact e1 a
      have e5 : nxV A o (i + 1) = nxV A o i := by show (if vB A o i = true then _ else nxV A o i) = _; rw [if_neg e4]
      rw [e5]
      simp (disch := omega) only [s170L4_45, s170L4_44, s170L4_42, s170L4_27, s170L4_26, s170L4, s170, RefL.s hR, RefL.r0 hR, RefL.r1 hR, RefL.r2 hR, RefL.r3 hR, RefL.r4 hR, RefL.r5 hR, RefL.r7 hR, RefL.r8 hR, RefL.r9 hR, RefL.r10 hR, RefL.r12 hR, RefL.r13 hR, RefL.r14 hR, RefL.r15 hR, RefL.r16 hR, RefL.r17 hR, RefL.r18 hR, RefL.r19 hR, RefL.a0 hR, RefL.a1 hR, RefL.a2 hR, RefL.a3 hR, RefL.a4 hR, RefL.a5 hR, RefL.a7 hR, RefL.a8 hR, RefL.a9 hR, RefL.a10 hR, RefL.a12 hR, RefL.a13 hR, RefL.a14 hR, RefL.a15 hR, RefL.a16 hR, RefL.a17 hR, RefL.a18 hR, RefL.a19 hR, k159 hM, Option.bind_some, Sum.elim_inl, Sum.elim_inr, reduceIte, if_true, if_false, ite_true, ite_false, not_true_eq_false, not_false_eq_true, or_true, true_or, or_false, false_or, and_true, true_and, and_false, false_and, eq_self, ne_eq, Nat.reduceAdd, Nat.reduceMul, Nat.le_refl, ite_self, Nat.reduceEqDiff, Nat.reduceLeDiff, Nat.reduceLT, L_0, L_1, L_2, L_3, L_4, L_5, L_6, L_7, L_8, L_9, L_10, L_11, L_12, L_13, L_14, L_15, L_16, L_24, L_31, L_40, L_48, L_49, L_50, L_51, L_60, L_72, L_99, L_127, L_132, L_172, L_412, L_428, L_429, L_430, L_431, L_432, L_433, L_1000, nI_add, nI_mul, nI_leI, nI_ltI, nI_eq, m_cl, mInb_iff, nI_ng, ng_nI, ng_ng, nI_lt_ng, ng_lt_nI, nI_le_ng, ng_le_nI, e1, show ¬ 10 ≤ i by omega]) (by
    simp (disch := omega) only [s170L4, Option.bind_some, Sum.elim_inl, Sum.elim_inr, reduceIte, if_true, if_false, ite_true, ite_false, not_true_eq_false, not_false_eq_true, or_true, true_or, or_false, false_or, and_true, true_and, and_false, false_and, eq_self, ne_eq, Nat.reduceAdd, Nat.reduceMul, Nat.le_refl, ite_self, Nat.reduceEqDiff, Nat.reduceLeDiff, Nat.reduceLT, L_0, L_1, L_2, L_3, L_4, L_5, L_6, L_7, L_8, L_9, L_10, L_11, L_12, L_13, L_14, L_15, L_16, L_24, L_31, L_40, L_48, L_49, L_50, L_51, L_60, L_72, L_99, L_127, L_132, L_172, L_412, L_428, L_429, L_430, L_431, L_432, L_433, L_1000, nI_add, nI_mul, nI_leI, nI_ltI, nI_eq, m_cl, mInb_iff, nI_ng, ng_nI, ng_ng, nI_lt_ng, ng_lt_nI, nI_le_ng, ng_le_nI]) (n := 1000) (by omega)
  simp (disch := omega) only [s170, Option.bind_some, Sum.elim_inl, Sum.elim_inr, reduceIte, if_true, if_false, ite_true, ite_false, not_true_eq_false, not_false_eq_true, or_true, true_or, or_false, false_or, and_true, true_and, and_false, false_and, eq_self, ne_eq, Nat.reduceAdd, Nat.reduceMul, Nat.le_refl, ite_self, Nat.reduceEqDiff, Nat.reduceLeDiff, Nat.reduceLT, L_0, L_1, L_2, L_3, L_4, L_5, L_6, L_7, L_8, L_9, L_10, L_11, L_12, L_13, L_14, L_15, L_16, L_24, L_31, L_40, L_48, L_49, L_50, L_51, L_60, L_72, L_99, L_127, L_132, L_172, L_412, L_428, L_429, L_430, L_431, L_432, L_433, L_1000, nI_add, nI_mul, nI_leI, nI_ltI, nI_eq, m_cl, mInb_iff, nI_ng, ng_nI, ng_ng, nI_lt_ng, ng_lt_nI, nI_le_ng, ng_le_nI, e]
/-- what distribute may change: bandwidth granted to open video tunnels -/
def FrD (f : Nat) (A : Ab) (μ μ' : mM) : Prop := μ'.2 = μ.2 ∧ ∀ q j, ¬ (j = 4 ∧ ∃ a, a < 10 ∧ q = tu f a ∧ aT A a 0 = 1 ∧ aT A a 1 = 0) → mI μ' q j = mI μ q j
theorem FrD.refl (f : Nat) (A : Ab) (μ : mM) : FrD f A μ μ := ⟨rfl, fun _ _ _ => rfl⟩
theorem FrD.trans {μ1 μ2 : mM} (h1 : FrD f A μ μ1) (h2 : FrD f A μ1 μ2) : FrD f A μ μ2 := ⟨h2.1.trans h1.1, fun q j h => (h2.2 q j h).trans (h1.2 q j h)⟩
theorem FrD.F (h : FrD f A μ μ') : FrF f μ μ' := by
  refine ⟨⟨congrArg (fun z => z.2.2) h.1, fun q hq => ⟨?_, congrArg (fun z => z.1 q) h.1⟩⟩, fun t d ht hd => ?_, fun hB => hB.cg (fun r hr => h.2 _ _ (fun z => by omega)) (fun t d ht hd => h.2 _ _ (fun z => by omega))⟩
  · funext j
    refine h.2 q j ?_
    rintro ⟨-, a, ha, e, -⟩
    unfold tu at e; omega
  · funext j
    refine h.2 _ j ?_
    rintro ⟨-, a, ha, e, -⟩
    have h1 : d = 0 ∨ d = 1 := by omega
    unfold tu wy at e; omega
theorem FrD_tu {x : Int32} (htt : t < 10) (h0 : aT A t 0 = 1) (h1 : aT A t 1 = 0) : FrD f A μ (mUI μ (tu f t) 4 x) := by
  refine ⟨rfl, fun q j h => ?_⟩
  rw [mI_UI, if_neg]
  rintro ⟨e1, e2⟩
  exact h ⟨e2, t, htt, e1, h0, h1⟩
/-- distribute -/
theorem j34 (hC : CS μ f A) (ht : WFt A) (hu : WFu A) : ∃ μ', s34 μ f = some μ' ∧ CS μ' f (dist A) ∧ FrD f A μ μ' := by
  obtain ⟨x, e, μ', e2, h1, h2⟩ := mLoop_inv0 (b := s34L4 f) (fun i s => ∃ A1, s.2.1 = nI i ∧ CS s.2.2 f A1 ∧ WFt A1 ∧ WFu A1 ∧ (FrD f A μ s.2.2 ∧ ∀ a k, k ≤ 1 → aT A1 a k = aT A a k) ∧ dN (10 - i) s.1 A1 = dist A) 10 (fun x => ∃ μ', (x = .inl μ' ∨ x = .inr μ') ∧ CS μ' f (dist A) ∧ FrD f A μ μ') (fun i s hi hI => by
    obtain ⟨o, y, ν⟩ := s
    obtain ⟨A1, g1, g2, g3, g4, g5, g6⟩ := hI
    simp only at g1 g2 g5 g6
    subst g1
    have hF := g2.1
    cases e : nxV A1 o 10 with
    | none =>
      right
      have e2 : s35 ν f o = some 0 := by rw [j35 g2 g4, e]
      rw [dN_none e] at g6
      rw [g6] at g2
      refine ⟨.inr ν, ?_, ν, Or.inr rfl, g2, g5.1⟩
      simp (disch := omega) only [s34L4_34, s34L4, s34, FabL.s0 hF, FabL.p0 hF, FabL.p1 hF, FabL.s1 hF, FabL.s2 hF, FabL.r hF, FabL.rs hF, FabL.rl hF, FabL.ls hF, FabL.l5 hF, FabL.l6 hF, FabL.l7 hF, FabL.l8 hF, FabL.q2 hF, FabL.q3 hF, FabL.q4 hF, FabL.q5 hF, FabL.tp hF, FabL.ts hF, FabL.td hF, FabL.tw hF, FabL.ws hF, FabL.w4 hF, FabL.w5 hF, FabL.w6 hF, FabL.w7 hF, FabL.w8 hF, FabL.v1 hF, FabL.v2 hF, FabL.v3 hF, FabL.v4 hF, FabL.v5 hF, e2, Option.bind_some, Sum.elim_inl, Sum.elim_inr, reduceIte, if_true, if_false, ite_true, ite_false, not_true_eq_false, not_false_eq_true, or_true, true_or, or_false, false_or, and_true, true_and, and_false, false_and, eq_self, ne_eq, Nat.reduceAdd, Nat.reduceMul, Nat.le_refl, ite_self, Nat.reduceEqDiff, Nat.reduceLeDiff, Nat.reduceLT, L_0, L_1, L_2, L_3, L_4, L_5, L_6, L_7, L_8, L_9, L_10, L_11, L_12, L_13, L_14, L_15, L_16, L_24, L_31, L_40, L_48, L_49, L_50, L_51, L_60, L_72, L_99, L_127, L_132, L_172, L_412, L_428, L_429, L_430, L_431, L_432, L_433, L_1000, nI_add, nI_mul, nI_leI, nI_ltI, nI_eq, m_cl, mInb_iff, nI_ng, ng_nI, ng_ng, nI_lt_ng, ng_lt_nI, nI_le_ng, ng_le_nI, show ¬ 10 ≤ i by omega]
    | some t =>
      left
      obtain ⟨t1, t2⟩ := nxV_some e
      obtain ⟨t3, t4, -⟩ := vB_iff.mp t2
      obtain ⟨o1, o2, o3, o4, o5, o6, o7, o8, -⟩ := g4.o t1 t3
      have e2 : s35 ν f o = some (tu f t) := by rw [j35 g2 g4, e]
      have z : ¬ tu f t = 0 := by unfold tu; omega
      have en : 10 - i = (10 - (i + 1)) + 1 := by omega
      rw [en, dN_some e] at g6
      by_cases e3 : aT A1 t 3 ≤ aT A1 t 4
      · refine ⟨(nI (aT A1 t 5), nI (i + 1), ν), ?_, A1, rfl, g2, g3, g4, g5, ?_⟩
        · simp (disch := omega) only [s34L4_34, s34L4, s34, FabL.s0 hF, FabL.p0 hF, FabL.p1 hF, FabL.s1 hF, FabL.s2 hF, FabL.r hF, FabL.rs hF, FabL.rl hF, FabL.ls hF, FabL.l5 hF, FabL.l6 hF, FabL.l7 hF, FabL.l8 hF, FabL.q2 hF, FabL.q3 hF, FabL.q4 hF, FabL.q5 hF, FabL.tp hF, FabL.ts hF, FabL.td hF, FabL.tw hF, FabL.ws hF, FabL.w4 hF, FabL.w5 hF, FabL.w6 hF, FabL.w7 hF, FabL.w8 hF, FabL.v1 hF, FabL.v2 hF, FabL.v3 hF, FabL.v4 hF, FabL.v5 hF, e2, RepC.t3 g2.2, RepC.t4 g2.2, RepC.t5 g2.2, t3, z, e3, Option.bind_some, Sum.elim_inl, Sum.elim_inr, reduceIte, if_true, if_false, ite_true, ite_false, not_true_eq_false, not_false_eq_true, or_true, true_or, or_false, false_or, and_true, true_and, and_false, false_and, eq_self, ne_eq, Nat.reduceAdd, Nat.reduceMul, Nat.le_refl, ite_self, Nat.reduceEqDiff, Nat.reduceLeDiff, Nat.reduceLT, L_0, L_1, L_2, L_3, L_4, L_5, L_6, L_7, L_8, L_9, L_10, L_11, L_12, L_13, L_14, L_15, L_16, L_24, L_31, L_40, L_48, L_49, L_50, L_51, L_60, L_72, L_99, L_127, L_132, L_172, L_412, L_428, L_429, L_430, L_431, L_432, L_433, L_1000, nI_add, nI_mul, nI_leI, nI_ltI, nI_eq, m_cl, mInb_iff, nI_ng, ng_nI, ng_ng, nI_lt_ng, ng_lt_nI, nI_le_ng, ng_le_nI, show ¬ 10 ≤ i by omega]
        · rw [← g6]; unfold stD; rw [if_pos e3]
      · have hm := rmK_le (A := A1) (d := aT A1 t 2) (dep A1 (aT A1 t 2))
        have ev : min (aT A1 t 3) (aT A1 t 4 + min 12 (rmK A1 (aT A1 t 2) (dep A1 (aT A1 t 2)))) = aT A1 t 4 + min (aT A1 t 3 - aT A1 t 4) (rmK A1 (aT A1 t 2) (dep A1 (aT A1 t 2))) := by omega
        have es : stD A1 t = setT A1 t 4 (aT A1 t 4 + min (aT A1 t 3 - aT A1 t 4) (rmK A1 (aT A1 t 2) (dep A1 (aT A1 t 2)))) := by unfold stD; rw [if_neg e3]
        refine ⟨(nI (aT A1 t 5), nI (i + 1), mUI ν (tu f t) 4 (nI (aT A1 t 4 + min (aT A1 t 3 - aT A1 t 4) (rmK A1 (aT A1 t 2) (dep A1 (aT A1 t 2)))))), ?_, stD A1 t, rfl, ?_, stD_wft g3, stD_wfu g3 g4 t1 t3, ⟨g5.1.trans (FrD_tu t1 (by rw [← g5.2 t 0 (by omega)]; exact t3) (by rw [← g5.2 t 1 (by omega)]; exact t4)), fun a k hk => by rw [stD_eq.2.2 a k (by omega)]; exact g5.2 a k hk⟩, g6⟩
        · simp (disch := omega) only [s34L4_34, s34L4, s34, FabL.s0 hF, FabL.p0 hF, FabL.p1 hF, FabL.s1 hF, FabL.s2 hF, FabL.r hF, FabL.rs hF, FabL.rl hF, FabL.ls hF, FabL.l5 hF, FabL.l6 hF, FabL.l7 hF, FabL.l8 hF, FabL.q2 hF, FabL.q3 hF, FabL.q4 hF, FabL.q5 hF, FabL.tp hF, FabL.ts hF, FabL.td hF, FabL.tw hF, FabL.ws hF, FabL.w4 hF, FabL.w5 hF, FabL.w6 hF, FabL.w7 hF, FabL.w8 hF, FabL.v1 hF, FabL.v2 hF, FabL.v3 hF, FabL.v4 hF, FabL.v5 hF, e2, RepC.t3 g2.2, RepC.t2 g2.2, RepC.t4 g2.2, RepC.t5 g2.2, j31 g2 g3 g4, mMin_nI, t3, z, e3, ev, Option.bind_some, Sum.elim_inl, Sum.elim_inr, reduceIte, if_true, if_false, ite_true, ite_false, not_true_eq_false, not_false_eq_true, or_true, true_or, or_false, false_or, and_true, true_and, and_false, false_and, eq_self, ne_eq, Nat.reduceAdd, Nat.reduceMul, Nat.le_refl, ite_self, Nat.reduceEqDiff, Nat.reduceLeDiff, Nat.reduceLT, L_0, L_1, L_2, L_3, L_4, L_5, L_6, L_7, L_8, L_9, L_10, L_11, L_12, L_13, L_14, L_15, L_16, L_24, L_31, L_40, L_48, L_49, L_50, L_51, L_60, L_72, L_99, L_127, L_132, L_172, L_412, L_428, L_429, L_430, L_431, L_432, L_433, L_1000, nI_add, nI_mul, nI_leI, nI_ltI, nI_eq, m_cl, mInb_iff, nI_ng, ng_nI, ng_ng, nI_lt_ng, ng_lt_nI, nI_le_ng, ng_le_nI, show ¬ 10 ≤ i by omega]
        · rw [es]; exact CS.uT4 g2 (WN.of g3 g4) t1) (fun s hI => by
    obtain ⟨o, y, ν⟩ := s
    obtain ⟨A1, g1, g2, g3, g4, g5, g6⟩ := hI
    simp only at g1 g2 g5 g6
    subst g1
    rw [show dN (10 - 10) o A1 = A1 from rfl] at g6
    rw [g6] at g2
    refine ⟨.inl ν, ?_, ν, Or.inl rfl, g2, g5.1⟩
    simp (disch := omega) only [s34L4_34, s34L4, s34, Option.bind_some, Sum.elim_inl, Sum.elim_inr, reduceIte, if_true, if_false, ite_true, ite_false, not_true_eq_false, not_false_eq_true, or_true, true_or, or_false, false_or, and_true, true_and, and_false, false_and, eq_self, ne_eq, Nat.reduceAdd, Nat.reduceMul, Nat.le_refl, ite_self, Nat.reduceEqDiff, Nat.reduceLeDiff, Nat.reduceLT, L_0, L_1, L_2, L_3, L_4, L_5, L_6, L_7, L_8, L_9, L_10, L_11, L_12, L_13, L_14, L_15, L_16, L_24, L_31, L_40, L_48, L_49, L_50, L_51, L_60, L_72, L_99, L_127, L_132, L_172, L_412, L_428, L_429, L_430, L_431, L_432, L_433, L_1000, nI_add, nI_mul, nI_leI, nI_ltI, nI_eq, m_cl, mInb_iff, nI_ng, ng_nI, ng_ng, nI_lt_ng, ng_lt_nI, nI_le_ng, ng_le_nI]) (s := (-nI 1, nI 0, μ)) ⟨A, rfl, hC, ht, hu, ⟨FrD.refl _ _ _, fun _ _ _ => rfl⟩, rfl⟩ (n := 1000) (by omega)
  refine ⟨μ', ?_, h1, h2⟩
  rcases e2 with e2 | e2 <;> subst e2 <;> simp (disch := omega) only [s34, Option.bind_some, Sum.elim_inl, Sum.elim_inr, reduceIte, if_true, if_false, ite_true, ite_false, not_true_eq_false, not_false_eq_true, or_true, true_or, or_false, false_or, and_true, true_and, and_false, false_and, eq_self, ne_eq, Nat.reduceAdd, Nat.reduceMul, Nat.le_refl, ite_self, Nat.reduceEqDiff, Nat.reduceLeDiff, Nat.reduceLT, L_0, L_1, L_2, L_3, L_4, L_5, L_6, L_7, L_8, L_9, L_10, L_11, L_12, L_13, L_14, L_15, L_16, L_24, L_31, L_40, L_48, L_49, L_50, L_51, L_60, L_72, L_99, L_127, L_132, L_172, L_412, L_428, L_429, L_430, L_431, L_432, L_433, L_1000, nI_add, nI_mul, nI_leI, nI_ltI, nI_eq, m_cl, mInb_iff, nI_ng, ng_nI, ng_ng, nI_lt_ng, ng_lt_nI, nI_le_ng, ng_le_nI, e]
theorem k171L : ∀ {n : Nat} {N : Nat} {o : Int32} {A : Ab} {μ : mM}, n < N → cntV A o ≤ n → RS μ A → WFt A → WFu A → ∃ μ', mLoop (s171L4 200) N ((match nxV A o 10 with | none => -nI 10 | some b => nI b), μ) = some (.inl μ') ∧ RS μ' (dN n o A) ∧ Fr 201 202 μ μ'
  | n, 0, o, A, μ, hN, _, _, _, _ => by omega
  | n, N + 1, o, A, μ, hN, hc, hM, ht, hu => by
    have hR := hM.1
    cases e : nxV A o 10 with
    | none =>
      refine ⟨μ, ?_, by rw [dN_none e]; exact hM, Fr.refl _ _ _⟩
      have : s171L4 200 (-nI 10, μ) = some (.inr (.inl μ)) := by simp (disch := omega) only [s171L4_38, s171L4, s171, Option.bind_some, Sum.elim_inl, Sum.elim_inr, reduceIte, if_true, if_false, ite_true, ite_false, not_true_eq_false, not_false_eq_true, or_true, true_or, or_false, false_or, and_true, true_and, and_false, false_and, eq_self, ne_eq, Nat.reduceAdd, Nat.reduceMul, Nat.le_refl, ite_self, Nat.reduceEqDiff, Nat.reduceLeDiff, Nat.reduceLT, L_0, L_1, L_2, L_3, L_4, L_5, L_6, L_7, L_8, L_9, L_10, L_11, L_12, L_13, L_14, L_15, L_16, L_24, L_31, L_40, L_48, L_49, L_50, L_51, L_60, L_72, L_99, L_127, L_132, L_172, L_412, L_428, L_429, L_430, L_431, L_432, L_433, L_1000, nI_add, nI_mul, nI_leI, nI_ltI, nI_eq, m_cl, mInb_iff, nI_ng, ng_nI, ng_ng, nI_lt_ng, ng_lt_nI, nI_le_ng, ng_le_nI]
      simp only [mLoop, this]
    | some t =>
      obtain ⟨t1, t2⟩ := nxV_some e
      obtain ⟨t3, t4, -⟩ := vB_iff.mp t2
      obtain ⟨o1, o2, o3, o4, o5, o6, o7, o8, -⟩ := hu.o t1 t3
      have hlt := cntV_lt e
      cases n with
      | zero => omega
      | succ n =>
        have hcs : cntV (stD A t) (nI (aT A t 5)) = cntV A (nI (aT A t 5)) := by
          unfold cntV vB; simp only [stD_eq.2.2 _ 0 (by omega), stD_eq.2.2 _ 1 (by omega), stD_eq.2.2 _ 5 (by omega)]
        have hm := rmK_le (A := A) (d := aT A t 2) (dep A (aT A t 2))
        have step : ∃ ν, s171L4 200 (nI t, μ) = some (.inl ((match nxV (stD A t) (nI (aT A t 5)) 10 with | none => -nI 10 | some b => nI b), ν)) ∧ RS ν (stD A t) ∧ Fr 201 202 μ ν := by
          by_cases e3 : aT A t 3 ≤ aT A t 4
          · have es : stD A t = A := by unfold stD; rw [if_pos e3]
            rw [es]
            refine ⟨μ, ?_, hM, Fr.refl _ _ _⟩
            simp (disch := omega) only [s171L4_38, s171L4, s171, RefL.s hR, RefL.r0 hR, RefL.r1 hR, RefL.r2 hR, RefL.r3 hR, RefL.r4 hR, RefL.r5 hR, RefL.r7 hR, RefL.r8 hR, RefL.r9 hR, RefL.r10 hR, RefL.r12 hR, RefL.r13 hR, RefL.r14 hR, RefL.r15 hR, RefL.r16 hR, RefL.r17 hR, RefL.r18 hR, RefL.r19 hR, RefL.a0 hR, RefL.a1 hR, RefL.a2 hR, RefL.a3 hR, RefL.a4 hR, RefL.a5 hR, RefL.a7 hR, RefL.a8 hR, RefL.a9 hR, RefL.a10 hR, RefL.a12 hR, RefL.a13 hR, RefL.a14 hR, RefL.a15 hR, RefL.a16 hR, RefL.a17 hR, RefL.a18 hR, RefL.a19 hR, k159 hM, k170 hM hu, nI_sub, Option.bind_some, Sum.elim_inl, Sum.elim_inr, reduceIte, if_true, if_false, ite_true, ite_false, not_true_eq_false, not_false_eq_true, or_true, true_or, or_false, false_or, and_true, true_and, and_false, false_and, eq_self, ne_eq, Nat.reduceAdd, Nat.reduceMul, Nat.le_refl, ite_self, Nat.reduceEqDiff, Nat.reduceLeDiff, Nat.reduceLT, L_0, L_1, L_2, L_3, L_4, L_5, L_6, L_7, L_8, L_9, L_10, L_11, L_12, L_13, L_14, L_15, L_16, L_24, L_31, L_40, L_48, L_49, L_50, L_51, L_60, L_72, L_99, L_127, L_132, L_172, L_412, L_428, L_429, L_430, L_431, L_432, L_433, L_1000, nI_add, nI_mul, nI_leI, nI_ltI, nI_eq, m_cl, mInb_iff, nI_ng, ng_nI, ng_ng, nI_lt_ng, ng_lt_nI, nI_le_ng, ng_le_nI, show aT A t 3 - aT A t 4 ≤ 0 by omega]
          · have es : stD A t = setT A t 4 (aT A t 4 + min (aT A t 3 - aT A t 4) (rmK A (aT A t 2) (dep A (aT A t 2)))) := by unfold stD; rw [if_neg e3]
            have hM2 : RS (mUI μ 201 (72 + 6 * t + 4) (nI (aT A t 4 + min (aT A t 3 - aT A t 4) (rmK A (aT A t 2) (dep A (aT A t 2)))))) (stD A t) := by rw [es]; exact RS.uT hM t1 (by omega)
            have hu2 := stD_wfu ht hu t1 t3
            have e5 : aT (stD A t) t 5 = aT A t 5 := stD_eq.2.2 t 5 (by omega)
            have hR2 := hM2.1
            refine ⟨_, ?_, hM2, Fr_UI μ (by omega) (by omega) _ _⟩
            have a1 := k160 (v := aT A t 4 + min (aT A t 3 - aT A t 4) (rmK A (aT A t 2) (dep A (aT A t 2)))) hM t1 (k := 4) (by omega)
            generalize hν : mUI μ 201 (72 + 6 * t + 4) (nI (aT A t 4 + min (aT A t 3 - aT A t 4) (rmK A (aT A t 2) (dep A (aT A t 2))))) = ν at *
            have a2 := k159 hM2 t1 (k := 5) (by omega)
            have a3 := k170 (o := nI (aT A t 5)) hM2 hu2
            rw [e5] at a2
            have r1 := RefL.s hR2
            simp (disch := omega) only [s171L4_38, s171L4, s171, RefL.s hR, RefL.r0 hR, RefL.r1 hR, RefL.r2 hR, RefL.r3 hR, RefL.r4 hR, RefL.r5 hR, RefL.r7 hR, RefL.r8 hR, RefL.r9 hR, RefL.r10 hR, RefL.r12 hR, RefL.r13 hR, RefL.r14 hR, RefL.r15 hR, RefL.r16 hR, RefL.r17 hR, RefL.r18 hR, RefL.r19 hR, RefL.a0 hR, RefL.a1 hR, RefL.a2 hR, RefL.a3 hR, RefL.a4 hR, RefL.a5 hR, RefL.a7 hR, RefL.a8 hR, RefL.a9 hR, RefL.a10 hR, RefL.a12 hR, RefL.a13 hR, RefL.a14 hR, RefL.a15 hR, RefL.a16 hR, RefL.a17 hR, RefL.a18 hR, RefL.a19 hR, k159 hM, k169 hM ht hu, k145, nI_sub, a1, a2, a3, r1, Option.bind_some, Sum.elim_inl, Sum.elim_inr, reduceIte, if_true, if_false, ite_true, ite_false, not_true_eq_false, not_false_eq_true, or_true, true_or, or_false, false_or, and_true, true_and, and_false, false_and, eq_self, ne_eq, Nat.reduceAdd, Nat.reduceMul, Nat.le_refl, ite_self, Nat.reduceEqDiff, Nat.reduceLeDiff, Nat.reduceLT, L_0, L_1, L_2, L_3, L_4, L_5, L_6, L_7, L_8, L_9, L_10, L_11, L_12, L_13, L_14, L_15, L_16, L_24, L_31, L_40, L_48, L_49, L_50, L_51, L_60, L_72, L_99, L_127, L_132, L_172, L_412, L_428, L_429, L_430, L_431, L_432, L_433, L_1000, nI_add, nI_mul, nI_leI, nI_ltI, nI_eq, m_cl, mInb_iff, nI_ng, ng_nI, ng_ng, nI_lt_ng, ng_lt_nI, nI_le_ng, ng_le_nI, show ¬ aT A t 3 - aT A t 4 ≤ 0 by omega]
        obtain ⟨ν, s1, s2, s3⟩ := step
        obtain ⟨μ', f1, f2, f3⟩ := k171L (n := n) (N := N) (o := nI (aT A t 5)) (A := stD A t) (μ := ν) (by omega) (by omega) s2 (stD_wft ht) (stD_wfu ht hu t1 t3)
        refine ⟨μ', ?_, by rw [dN_some e]; exact f2, s3.trans f3⟩
        simp only [mLoop, s1, f1]
theorem k171 (hM : RS μ A) (ht : WFt A) (hu : WFu A) : ∃ μ', s171 μ 200 = some μ' ∧ RS μ' (dist A) ∧ Fr 201 202 μ μ' := by
  have hR := hM.1
  obtain ⟨μ', h1, h2, h3⟩ := k171L (n := 10) (N := 1000) (o := -nI 1) (A := A) (μ := μ) (by omega) cntV_le hM ht hu
  refine ⟨μ', ?_, h2, h3⟩
  simp (disch := omega) only [s171, RefL.s hR, RefL.r0 hR, RefL.r1 hR, RefL.r2 hR, RefL.r3 hR, RefL.r4 hR, RefL.r5 hR, RefL.r7 hR, RefL.r8 hR, RefL.r9 hR, RefL.r10 hR, RefL.r12 hR, RefL.r13 hR, RefL.r14 hR, RefL.r15 hR, RefL.r16 hR, RefL.r17 hR, RefL.r18 hR, RefL.r19 hR, RefL.a0 hR, RefL.a1 hR, RefL.a2 hR, RefL.a3 hR, RefL.a4 hR, RefL.a5 hR, RefL.a7 hR, RefL.a8 hR, RefL.a9 hR, RefL.a10 hR, RefL.a12 hR, RefL.a13 hR, RefL.a14 hR, RefL.a15 hR, RefL.a16 hR, RefL.a17 hR, RefL.a18 hR, RefL.a19 hR, k170 hM hu, h1, Option.bind_some, Sum.elim_inl, Sum.elim_inr, reduceIte, if_true, if_false, ite_true, ite_false, not_true_eq_false, not_false_eq_true, or_true, true_or, or_false, false_or, and_true, true_and, and_false, false_and, eq_self, ne_eq, Nat.reduceAdd, Nat.reduceMul, Nat.le_refl, ite_self, Nat.reduceEqDiff, Nat.reduceLeDiff, Nat.reduceLT, L_0, L_1, L_2, L_3, L_4, L_5, L_6, L_7, L_8, L_9, L_10, L_11, L_12, L_13, L_14, L_15, L_16, L_24, L_31, L_40, L_48, L_49, L_50, L_51, L_60, L_72, L_99, L_127, L_132, L_172, L_412, L_428, L_429, L_430, L_431, L_432, L_433, L_1000, nI_add, nI_mul, nI_leI, nI_ltI, nI_eq, m_cl, mInb_iff, nI_ng, ng_nI, ng_ng, nI_lt_ng, ng_lt_nI, nI_le_ng, ng_le_nI]
end DI
