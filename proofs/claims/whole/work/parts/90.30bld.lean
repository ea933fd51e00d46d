/-! build: what it does to the abstract state -/
section BL
variable {μ ν : mM} {A B B' : Ab} {f r k t d h q : Nat}
/-- alike but for what is granted -/
def Eq4 (B B' : Ab) : Prop := B.1 = B'.1 ∧ B.2.2 = B'.2.2 ∧ ∀ a k, ¬ k = 4 → aT B a k = aT B' a k
theorem Eq4.shut (h : Eq4 B B') : Eq4 (shutA B t) (shutA B' t) := by
  obtain ⟨R, T, X⟩ := B
  obtain ⟨R', T', X'⟩ := B'
  obtain ⟨h1, h2, h3⟩ := h
  simp only at h1 h2
  subst h1 h2
  refine ⟨rfl, rfl, fun a k hk => ?_⟩
  rw [shutA_eq.2.2.1, shutA_eq.2.2.1, h3 a k hk]
theorem Eq4.dst (h : Eq4 B B') : Eq4 (dist B) B' := by
  obtain ⟨g1, g2, g3⟩ := dN_eq (n := 10) (o := -nI 1) (A := B)
  exact ⟨g1.trans h.1, g2.trans h.2.1, fun a k hk => (g3 a k hk).trans (h.2.2 a k hk)⟩
theorem CS_closed (hC : CS μ f B) (h : Eq4 B B') (hc : ∀ a, a < 10 → ¬ aT B' a 0 = 1) : CS μ f B' := by
  obtain ⟨R, T, X⟩ := B
  obtain ⟨R', T', X'⟩ := B'
  obtain ⟨h1, h2, h3⟩ := h
  simp only at h1 h2
  subst h1 h2
  obtain ⟨hF, q1, q2, q3, q4, q5, q6⟩ := hC
  refine ⟨hF, q1, q2, q3, q4, fun a ha => ?_, fun a ha ho => absurd ho (hc a ha), fun a d ha ho => absurd ho (hc a ha), fun a d h ha ho => absurd ho (hc a ha)⟩
  have e : aT (R, T, X) a 0 = aT (R, T', X) a 0 := h3 a 0 (by omega)
  rw [← e]; exact q5 a ha
def pO (A : Ab) (t : Nat) : Bool := aT A t 0 == 1
def p1 (a : Nat) : Bool := !(a == 0)
theorem p1_iff {a : Nat} : p1 a = true ↔ ¬ a = 0 := by unfold p1; simp
theorem shO_closed : ∀ a, a < 10 → ¬ aT (shN (pO A) 10 A) a 0 = 1 := fun a ha z => by
  rw [(shN_eq 10).2.2.1] at z
  by_cases y : pO A a = true
  · rw [if_pos ⟨rfl, ha, y⟩] at z; omega
  · rw [if_neg (fun w => y w.2.2)] at z
    exact y (by unfold pO; simp [z])
/-- the host alone, without tunnels -/
def Alone (A : Ab) : Prop := (aR A 0 0 = 1 ∧ aR A 0 1 = 4 ∧ aR A 0 2 = 3 ∧ aR A 0 3 = 0 ∧ aR A 0 4 = 0) ∧ (∀ q, 1 ≤ q → q < 8 → aR A q 0 = 0) ∧ (∀ a, a < 10 → aT A a 0 = 0) ∧ (aC A 3 ≤ 9 ∧ 1 ≤ aC A 3)
theorem Alone.wft (h : Alone A) : WFt A := ⟨h.1, fun r hr => by
  by_cases z : r = 0
  · rw [z, h.1.1]; omega
  · rw [h.2.1 r (by omega) hr]; omega, fun r h1 hr hp => by rw [h.2.1 r h1 hr] at hp; omega, fun r q h1 hr _ _ hp => by rw [h.2.1 r h1 hr] at hp; omega⟩
theorem closed_wfu (ht : WFt A) (h : ∀ a, a < 10 → aT A a 0 = 0) (h3 : aC A 3 ≤ 9 ∧ 1 ≤ aC A 3) : WFu A := by
  refine ⟨fun a ha => by rw [h a ha]; omega, h3, fun a ha ho => by rw [h a ha] at ho; omega, fun r h1 hr hp => ?_, fun k hk => ?_⟩
  · have : rsv A r = 0 := by
      unfold rsv
      have := sumN_congr (g := fun a => if us A a r 0 = true ∧ aT A a 1 = 0 then aT A a 4 else 0) (h := fun _ => 0) (n := 10) (fun a ha => by
        show (if us A a r 0 = true ∧ aT A a 1 = 0 then aT A a 4 else 0) = 0
        rw [if_neg]
        rintro ⟨z, -⟩
        have := (us_iff.mp z).1
        rw [h a ha] at this; omega)
      rw [this, sumN_const]
    have := cap_le A r 0
    omega
  · have : opN A k = 0 := by
      unfold opN
      have := sumN_congr (g := fun a => if aT A a 0 = 1 ∧ aT A a 1 = k then 1 else 0) (h := fun _ => 0) (n := 10) (fun a ha => by
        show (if aT A a 0 = 1 ∧ aT A a 1 = k then 1 else 0) = 0
        rw [if_neg]
        rintro ⟨z, -⟩
        rw [h a ha] at z; omega)
      rw [this, sumN_const]
    rw [this]; omega
theorem bldA_alone (ht : WFt A) (hu : WFu A) : Alone (deN p1 8 (shN (pO A) 10 A)) := by
  obtain ⟨e1, e2⟩ := deN_eq (p := p1) (A := shN (pO A) 10 A) 8
  obtain ⟨s1, s2, s3, s4, s5⟩ := shN_eq (p := pO A) (A := A) 10
  have sR : ∀ a k, aR (shN (pO A) 10 A) a k = aR A a k := fun a k => by show (shN (pO A) 10 A).1 a k = _; rw [s1]
  have r0 : ∀ k, aR (deN p1 8 (shN (pO A) 10 A)) 0 k = aR A 0 k := fun k => by
    rw [e2, if_neg (fun z => (p1_iff.mp z.2.2) rfl), sR]
  refine ⟨by rw [r0, r0, r0, r0, r0]; exact ht.1, fun q h1 hq => ?_, fun a ha => ?_, ?_⟩
  · rw [e2, if_pos ⟨rfl, hq, p1_iff.mpr (by omega)⟩]
  · have z : aT (deN p1 8 (shN (pO A) 10 A)) a 0 = aT (shN (pO A) 10 A) a 0 := congrArg (fun z => z.1 a 0) e1
    have := shO_closed (A := A) a ha
    have hl := (shN_wfu (p := pO A) hu 10).le1 ha
    rw [z]; omega
  · have z : aC (deN p1 8 (shN (pO A) 10 A)) 3 = aC (shN (pO A) 10 A) 3 := congrArg (fun z => z.2.2.1 3) e1
    rw [z, s5 3 (by omega)]; exact hu.2.1
/-- the routers of a text, one by one -/
def bN (K G P O : Nat → Nat) : Nat → Ab → Ab
  | 0, A => A
  | n + 1, A => addA (bN K G P O n A) (n + 1) (P (n + 1)) (O (n + 1)) (K (n + 1)) (G (n + 1))
theorem bN_T {K G P O : Nat → Nat} : ∀ n, (bN K G P O n A).2.1 = A.2.1 ∧ (bN K G P O n A).2.2.1 = A.2.2.1 ∧ (bN K G P O n A).2.2.2.1 = A.2.2.2.1
  | 0 => ⟨rfl, rfl, rfl⟩
  | n + 1 => bN_T n
def BI (A : Ab) (K P O D : Nat → Nat) (n : Nat) : Prop := WFt A ∧ WFu A ∧ (∀ q, q ≤ n → aR A q 0 = 1 ∧ aR A q 1 = K q ∧ dep A q = D q) ∧ (∀ q, 1 ≤ q → q ≤ n → aR A q 3 = P q ∧ aR A q 4 = O q) ∧ ∀ q, n < q → q < 8 → aR A q 0 = 0
theorem bN_ok {N X : Nat} {M : Bool} {K G P O D T : Nat → Nat} (hW : PW (N, X, false, M, K, G, P, O, D, T)) (hA : Alone A) : ∀ n, n ≤ N → BI (bN K G P O n A) K P O D n ∧ (n < N → AddOK (bN K G P O n A) (n + 1) (P (n + 1)) (O (n + 1)) (K (n + 1)) (G (n + 1)))
  | n, hn => by
    obtain ⟨h1, h2, h3, h4, h5, h6, h7, h8, h9, h10⟩ := id hW
    have key : BI (bN K G P O n A) K P O D n := by
      cases n with
      | zero =>
        refine ⟨hA.wft, closed_wfu hA.wft hA.2.2.1 hA.2.2.2, fun q hq => ?_, fun q q1 q2 => by omega, fun q q1 q2 => hA.2.1 q (by omega) q2⟩
        have : q = 0 := by omega
        subst this
        exact ⟨hA.1.1, by rw [h3]; exact hA.1.2.1, by rw [h4]; rfl⟩
      | succ n =>
        obtain ⟨⟨w1, w2, w3, w4, w5⟩, hadd⟩ := bN_ok hW hA n (by omega)
        have ha := hadd (by omega)
        obtain ⟨q1, q2, q3, q4, q5⟩ := h5 (n + 1) (by omega) hn
        refine ⟨wft_add ha w1, wfu_add ha w1 w2, fun q hq => ?_, fun q qa qb => ?_, fun q qa qb => ?_⟩
        · by_cases y : q = n + 1
          · subst y
            show aR (addA _ (n + 1) _ _ _ _) (n + 1) 0 = 1 ∧ aR (addA _ (n + 1) _ _ _ _) (n + 1) 1 = _ ∧ dep (addA _ (n + 1) _ _ _ _) (n + 1) = _
            rw [add_0, add_1, dep_new ha w1, (w3 (P (n + 1)) (by omega)).2.2]
            exact ⟨rfl, rfl, q3.symm⟩
          · obtain ⟨z1, z2, z3⟩ := w3 q (by omega)
            show aR (addA _ (n + 1) _ _ _ _) q 0 = 1 ∧ aR (addA _ (n + 1) _ _ _ _) q 1 = _ ∧ dep (addA _ (n + 1) _ _ _ _) q = _
            rw [add_ne y, add_ne y, dep_add ha w1 (by omega) z1]
            exact ⟨z1, z2, z3⟩
        · by_cases y : q = n + 1
          · subst y
            show aR (addA _ (n + 1) _ _ _ _) (n + 1) 3 = _ ∧ aR (addA _ (n + 1) _ _ _ _) (n + 1) 4 = _
            rw [add_3, add_4]; exact ⟨rfl, rfl⟩
          · show aR (addA _ (n + 1) _ _ _ _) q 3 = _ ∧ aR (addA _ (n + 1) _ _ _ _) q 4 = _
            rw [add_ne y, add_ne y]; exact w4 q qa (by omega)
        · show aR (addA _ (n + 1) _ _ _ _) q 0 = 0
          rw [add_ne (by omega)]; exact w5 q (by omega) qb
    refine ⟨key, fun hlt => ?_⟩
    obtain ⟨w1, w2, w3, w4, w5⟩ := key
    obtain ⟨q1, q2, q3, q4, q5⟩ := h5 (n + 1) (by omega) (by omega)
    obtain ⟨z1, z2, z3⟩ := w3 (P (n + 1)) (by omega)
    obtain ⟨g1, g2⟩ := h8 (n + 1) (by omega) (by omega) (fun z => by cases z.1)
    have hT := h6 (P (n + 1)) (by omega)
    refine ⟨by omega, by omega, by rw [w5 (n + 1) (by omega) (by omega)]; omega, by omega, z1, q1, g1, g2, by rw [z2]; omega, by rw [z3]; omega, fun q qa qb hq hn2 => ?_⟩
    have hqn : q ≤ n := by
      apply Classical.byContradiction
      intro z
      rw [w5 q (by omega) qb] at hq; omega
    obtain ⟨y1, y2⟩ := w4 q qa hqn
    rw [y1, y2] at hn2
    have := h7 q (n + 1) qa (by omega) (by omega) (by omega) hn2.1 hn2.2
    omega
theorem BI_sum {K P O D : Nat → Nat} {n : Nat} (h : BI A K P O D n) (hn : n ≤ 7) : sumN (fun r => aR A r 0) 8 = n + 1 := by
  obtain ⟨-, -, w3, -, w5⟩ := h
  have : ∀ m, m ≤ 8 → sumN (fun r => aR A r 0) m = min m (n + 1) := by
    intro m
    induction m with
    | zero => intro _; show 0 = _; omega
    | succ m ih =>
      intro hm
      show sumN (fun r => aR A r 0) m + aR A m 0 = _
      rw [ih (by omega)]
      by_cases y : m ≤ n
      · rw [(w3 m y).1]; omega
      · rw [w5 m (by omega) (by omega)]; omega
  rw [this 8 (by omega)]; omega
theorem PCl.fr {s : PS} (h : PCl μ s) (hr : ∀ q, q < 11 → mI ν q = mI μ q) : PCl ν s := by
  obtain ⟨N, A, U, M, K, G, P, O, D, T⟩ := s
  obtain ⟨c1, c2, c3, c4, c5, c6⟩ := h
  refine ⟨by rw [hr 3 (by omega)]; exact c1, by rw [hr 3 (by omega)]; exact c2, by rw [hr 3 (by omega)]; exact c3, by rw [hr 3 (by omega)]; exact c4, fun k hk => ?_, fun k k1 hk => ?_⟩
  · rw [hr 5 (by omega), hr 9 (by omega), hr 10 (by omega)]; exact c5 k hk
  · rw [hr 7 (by omega), hr 8 (by omega), hr 6 (by omega)]; exact c6 k k1 hk
theorem PRf.fr {s : PS} (h : PRf μ s) (hr : ∀ q, (q = 200 ∨ (207 ≤ q ∧ q ≤ 212)) → mI ν q = mI μ q) : PRf ν s := by
  obtain ⟨N, A, U, M, K, G, P, O, D, T⟩ := s
  obtain ⟨c1, c2, c3⟩ := h
  refine ⟨by rw [hr 200 (by omega)]; exact c1, fun k k1 hk => ?_, fun k hk => ?_⟩
  · rw [hr 207 (by omega), hr 208 (by omega), hr 209 (by omega), hr 210 (by omega)]; exact c2 k k1 hk
  · rw [hr 211 (by omega), hr 212 (by omega)]; exact c3 k hk
end BL
