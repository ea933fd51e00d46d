/-! the tick: cells that wait; links that wake -/
section TA
variable {μ ν : mM} {A : Ab} {r t d h i n v f : Nat}
/-- the cells before a hop -/
def wait (A : Ab) (t d h : Nat) : Nat := if h = 0 then aW A t d 4 0 else aW A t d (h - 1) 2
theorem wait_le (hu : WFu A) (htt : t < 10) (ho : aT A t 0 = 1) (hd : d < 2) (hh : h < 5) : wait A t d h ≤ 99 := by
  obtain ⟨-, -, -, -, -, -, -, -, w, -⟩ := hu.o htt ho
  obtain ⟨w1, w2⟩ := w d hd
  unfold wait
  split
  · exact w1
  · have := w2 (h - 1) (by omega)
    omega
theorem j91 (hC : CS μ f A) (htt : t < 10) (ho : aT A t 0 = 1) (hd : d < 2) (hh : h < wN A t d) (h4 : h < 5) : s91 μ (wy f t d) (nI h) = some (nI (wait A t d h)) := by
  have hF := hC.1
  unfold s91 wait
  by_cases e : h = 0
  · subst e
    rw [if_pos rfl]
    refine iteT (show nI 0 < 1 by decide) ?_
    unfold s91_13
    refine iteT (by rw [FabL.ws hF htt hd]) ?_
    show some (mI μ (wy f t d) 2) = _
    rw [RepC.w2 hC.2 htt ho hd]
  · rw [if_neg e]
    have e1 : nI h - 1 = nI (h - 1) := nI_sub (a := h) (b := 1) (by omega)
    refine iteF (by show ¬ nI h < nI 1; rw [nI_ltI (by omega) (by omega)]; omega) (iteF (by show ¬ nI 4 < nI h; rw [nI_ltI (by omega) (by omega)]; omega) (iteT (by rw [FabL.ws hF htt hd]) (iteT (by rw [FabL.w7 hF htt hd, FabL.v4 hF htt hd, e1]; exact ⟨rfl, (mInb_iff (by omega)).mpr (by omega)⟩) ?_)))
    show some (mI μ (mP μ (wy f t d) 7) (Int32.toNatClampNeg (nI h - 1))) = _
    rw [FabL.w7 hF htt hd, e1, m_cl (by omega), RepC.x4 hC.2 htt ho hd (by omega)]
theorem k208 (hM : RS μ A) (htt : t < 10) (hd : d < 2) (hh : h < 5) : s208 μ 200 (nI t) (nI d) (nI h) = some (nI (wait A t d h)) := by
  have hR := hM.1
  unfold s208 wait
  by_cases e : h = 0
  · subst e
    rw [if_pos rfl]
    have e2 : (132 : Int32) + 4 * nI t + 2 * nI d = nI (132 + 4 * t + 2 * d + 0) := by
      show nI 132 + nI 4 * nI t + nI 2 * nI d = _
      rw [nI_mul, nI_mul, nI_add, nI_add]; rfl
    have q := hM.2.2.2.1 t d 0 htt hd (by omega)
    refine iteF (show ¬ ¬ nI 0 = 0 by decide) (iteT (by rw [RefL.s hR]) (iteT (by rw [RefL.r0 hR, RefL.a0 hR, e2]; exact ⟨rfl, (mInb_iff (by omega)).mpr (by omega)⟩) ?_))
    show some (mI μ (mP μ 200 0) (Int32.toNatClampNeg ((132 : Int32) + 4 * nI t + 2 * nI d))) = _
    rw [RefL.r0 hR, e2, m_cl (by omega), q]
  · rw [if_neg e]
    have e1 : nI h - 1 = nI (h - 1) := nI_sub (a := h) (b := 1) (by omega)
    have q := hM.2.2.2.2.1 t d (h - 1) 2 htt hd (by omega) (by omega)
    have k163 : s163 μ (nI t) (nI d) (nI h - 1) = some (nI (172 + 3 * (8 * t + 4 * d + (h - 1)))) := by
      rw [e1]
      simp (disch := omega) only [s163, Option.bind_some, Sum.elim_inl, Sum.elim_inr, reduceIte, if_true, if_false, ite_true, ite_false, not_true_eq_false, not_false_eq_true, or_true, true_or, or_false, false_or, and_true, true_and, and_false, false_and, eq_self, ne_eq, Nat.reduceAdd, Nat.reduceMul, Nat.le_refl, ite_self, Nat.reduceEqDiff, Nat.reduceLeDiff, Nat.reduceLT, L_0, L_1, L_2, L_3, L_4, L_5, L_6, L_7, L_8, L_9, L_10, L_11, L_12, L_13, L_14, L_15, L_16, L_24, L_31, L_40, L_48, L_49, L_50, L_51, L_60, L_72, L_99, L_127, L_132, L_172, L_412, L_428, L_429, L_430, L_431, L_432, L_433, L_1000, nI_add, nI_mul, nI_leI, nI_ltI, nI_eq, m_cl, mInb_iff, nI_ng, ng_nI, ng_ng, nI_lt_ng, ng_lt_nI, nI_le_ng, ng_le_nI]
    refine iteT (by show ¬ nI h = nI 0; rw [nI_eq (by omega) (by omega)]; exact e) (iteT (by rw [RefL.s hR]) (bindS k163 ?_))
    have e2 : nI (172 + 3 * (8 * t + 4 * d + (h - 1))) + 2 = nI (172 + 3 * (8 * t + 4 * d + (h - 1)) + 2) := nI_add _ 2
    refine iteT (by rw [RefL.r0 hR, RefL.a0 hR, e2]; exact ⟨rfl, (mInb_iff (by omega)).mpr (by omega)⟩) ?_
    show some (mI μ (mP μ 200 0) (Int32.toNatClampNeg (nI (172 + 3 * (8 * t + 4 * d + (h - 1))) + 2))) = _
    rw [RefL.r0 hR, e2, m_cl (by omega), q]
/-- a tunnel's cells wait for a link -/
def aw1 (A : Ab) (r t d : Nat) : Bool := us A t r d && decide (0 < wait A t d (hx A t r d))
def awt (A : Ab) (r : Nat) : Nat → Bool
  | 0 => false
  | n + 1 => awt A r n || (aw1 A r n 0 || aw1 A r n 1)
theorem j83 (hC : CS μ f A) (ht : WFt A) (hu : WFu A) (htt : t < 10) (hr : r < 8) (hd : d < 2) : s83 μ (tu f t) (nI r) (nI d) = some (bI (aw1 A r t d)) := by
  have hF := hC.1
  have l1 := hu.le1 htt
  unfold s83 aw1
  refine iteT (by rw [FabL.ts hF htt]) (bindS (j78 hF htt hd) ?_)
  by_cases ho : aT A t 0 = 1
  · refine iteF (by rw [RepC.t0 hC.2 htt, ho]; decide) (iteT (by rw [FabL.ws hF htt hd]) (bindS (j90 hC ht hu htt ho hd (by omega)) ?_))
    by_cases u : us A t r d = true
    · obtain ⟨u1, u2, u3, u4, -⟩ := us_hx ht hu htt hd u
      have wl := wait_le (h := hx A t r d) hu htt ho hd (by omega)
      rw [if_pos u, u]
      unfold s83_12
      refine iteF (by
        intro z
        have : ∀ k : Fin 4, ¬ nI k.val = -1 := by decide
        exact this ⟨hx A t r d, by omega⟩ z) (iteT (by rw [FabL.ws hF htt hd]) (bindS (j91 hC htt ho hd u1 (by omega)) ?_))
      by_cases w : 0 < wait A t d (hx A t r d)
      · refine iteF (by show ¬ nI _ ≤ nI 0; rw [nI_leI (by omega) (by omega)]; omega) ?_
        rw [decide_eq_true w]; rfl
      · refine iteT (by show nI _ ≤ nI 0; rw [nI_leI (by omega) (by omega)]; omega) ?_
        rw [decide_eq_false w]; rfl
    · rw [if_neg u, show us A t r d = false by simpa using u]
      unfold s83_12
      exact iteT (by decide) rfl
  · have e0 : aT A t 0 = 0 := by omega
    have u : us A t r d = false := by unfold us; simp [e0]
    rw [u]
    refine iteT (by rw [RepC.t0 hC.2 htt, e0]; rfl) ?_
    unfold s83_12
    exact iteT (by decide) rfl
theorem awt_n {m : Nat} (h : awt A r n = true) (hm : n ≤ m) : awt A r m = true := by
  induction m with
  | zero => rw [show n = 0 by omega] at h; exact h
  | succ m ih =>
    by_cases e : n = m + 1
    · rw [← e]; exact h
    · show (awt A r m || _) = true
      rw [ih (by omega)]; rfl
theorem j3 {c : Nat} (hC : CS μ f A) (ht : WFt A) (hu : WFu A) (hr : r < 8) : s3 μ c f (nI r) = some (bI (awt A r 10)) := by
  have hF := hC.1
  obtain ⟨o, e, h3⟩ := mLoop_find (b := s3L2 μ f (nI r)) (fun i => nI i) 10 (fun i => (aw1 A r i 0 || aw1 A r i 1) = true) (fun i => .inr 1) (.inl ()) (fun i hi hp => by
    have mc := m_cl (show i < 2 ^ 31 by omega)
    have tp : mP μ (mP μ f 1) (Int32.toNatClampNeg (nI i)) = tu f i := by rw [FabL.p1 hF, mc, FabL.tp hF hi]
    unfold s3L2
    refine iteF (by show ¬ nI 10 ≤ nI i; rw [nI_leI (by omega) (by omega)]; omega) (iteT (by rw [FabL.s0 hF]) (iteT (by rw [FabL.p1 hF, FabL.s2 hF]; exact ⟨rfl, (mInb_iff (by omega)).mpr hi⟩) (iteT (by rw [tp, FabL.ts hF hi]) (bindS (v := bI (aw1 A r i 0)) (by rw [tp]; exact j83 hC ht hu hi hr (d := 0) (by omega)) ?_))))
    by_cases z : aw1 A r i 0 = true
    · exact iteT (by rw [z]; decide) rfl
    · have z' : aw1 A r i 0 = false := by simpa using z
      have z2 : aw1 A r i 1 = true := by rw [z'] at hp; simpa using hp
      exact iteF (by rw [z']; decide) (bindS (v := bI (aw1 A r i 1)) (by rw [tp]; exact j83 hC ht hu hi hr (d := 1) (by omega)) (iteF (by rw [z2]; decide) rfl))) (fun i hi hp => by
    have mc := m_cl (show i < 2 ^ 31 by omega)
    have tp : mP μ (mP μ f 1) (Int32.toNatClampNeg (nI i)) = tu f i := by rw [FabL.p1 hF, mc, FabL.tp hF hi]
    have z' : aw1 A r i 0 = false := by
      cases q : aw1 A r i 0
      · rfl
      · rw [q] at hp; exact absurd rfl hp
    have z2 : aw1 A r i 1 = false := by
      cases q : aw1 A r i 1
      · rfl
      · rw [z', q] at hp; exact absurd rfl hp
    unfold s3L2
    refine iteF (by show ¬ nI 10 ≤ nI i; rw [nI_leI (by omega) (by omega)]; omega) (iteT (by rw [FabL.s0 hF]) (iteT (by rw [FabL.p1 hF, FabL.s2 hF]; exact ⟨rfl, (mInb_iff (by omega)).mpr hi⟩) (iteT (by rw [tp, FabL.ts hF hi]) (bindS (v := bI (aw1 A r i 0)) (by rw [tp]; exact j83 hC ht hu hi hr (d := 0) (by omega)) (iteF (by rw [z']; decide) (bindS (v := bI (aw1 A r i 1)) (by rw [tp]; exact j83 hC ht hu hi hr (d := 1) (by omega)) (iteT (by rw [z2]; rfl) ?_)))))))
    show some (Sum.inl (nI i + nI 1)) = _
    rw [nI_add]) (by
    unfold s3L2
    exact iteT (by show nI 10 ≤ nI 10; rw [nI_leI (by omega) (by omega)]; omega) rfl) (n := 1000) (by omega)
  unfold s3
  refine bindS e ?_
  rcases h3 with ⟨i, hi, q1, q2, rfl⟩ | ⟨q1, rfl⟩
  · have : awt A r 10 = true := by
      refine awt_n (n := i + 1) ?_ (by omega)
      show (awt A r i || _) = true
      rw [q1, Bool.or_true]
    rw [this]; rfl
  · have : ∀ n, n ≤ 10 → awt A r n = false := by
      intro n
      induction n with
      | zero => intro _; rfl
      | succ n ih =>
        intro hn
        show (awt A r n || _) = false
        rw [ih (by omega)]
        have := q1 n (by omega)
        simpa using this
    rw [this 10 (by omega)]; rfl
theorem k210 (hM : RS μ A) (ht : WFt A) (hu : WFu A) (hr : r < 8) : s210 μ 200 (nI r) = some (bI (awt A r 10)) := by
  have hR := hM.1
  have inner : ∀ t b, t < 10 → mLoop (s210L4L9 μ 200 (nI r) (nI t)) 1000 (bI b, nI 0) = some (.inl (bI (b || (aw1 A r t 0 || aw1 A r t 1)))) := fun t b htt => by
    have step : ∀ d b, d < 2 → s210L4L9 μ 200 (nI r) (nI t) (bI b, nI d) = some (.inl (bI (b || aw1 A r t d), nI (d + 1))) := fun d b hd => by
      unfold s210L4L9
      refine iteF (by show ¬ nI 2 ≤ nI d; rw [nI_leI (by omega) (by omega)]; omega) (iteT (by rw [RefL.s hR]) (bindS (k162 hM ht hu hr htt (d := d) (by omega)) ?_))
      unfold aw1
      by_cases u : us A t r d = true
      · obtain ⟨u1, u2, u3, u4, u5, ho, -⟩ := us_hx ht hu htt hd u
        have wl := wait_le (h := hx A t r d) hu htt ho hd (by omega)
        rw [u]
        refine iteF (by decide) ?_
        cases b
        · refine iteF (show ¬ ¬ bI false = 0 by decide) (bindS (k159 hM htt (k := 2) (by omega)) (bindS (k164 hM ht hu htt hd u) (bindS (k208 hM htt hd (h := hx A t r d) (by omega)) ?_)))
          by_cases w : 0 < wait A t d (hx A t r d)
          · refine iteF (by show ¬ nI _ ≤ nI 0; rw [nI_leI (by omega) (by omega)]; omega) ?_
            rw [decide_eq_true w]
            show some (Sum.inl (nI 1, nI d + nI 1)) = _
            rw [nI_add]; rfl
          · refine iteT (by show nI _ ≤ nI 0; rw [nI_leI (by omega) (by omega)]; omega) ?_
            rw [decide_eq_false w]
            show some (Sum.inl (nI 0, nI d + nI 1)) = _
            rw [nI_add]; rfl
        · refine iteT (show ¬ bI true = 0 by decide) ?_
          show some (Sum.inl (nI 1, nI d + nI 1)) = _
          rw [nI_add]; rfl
      · rw [show us A t r d = false by simpa using u]
        refine iteT rfl ?_
        show some (Sum.inl (bI b, nI d + nI 1)) = _
        rw [nI_add, Bool.false_and, Bool.or_false]
    have e := mLoop_seq0 (b := s210L4L9 μ 200 (nI r) (nI t)) (fun i => (bI (if i = 0 then b else if i = 1 then (b || aw1 A r t 0) else (b || (aw1 A r t 0 || aw1 A r t 1))), nI i)) 2 (o := .inl (bI (b || (aw1 A r t 0 || aw1 A r t 1)))) (fun i hi => by
      have : i = 0 ∨ i = 1 := by omega
      rcases this with e | e <;> subst e
      · exact step 0 b (by omega)
      · have := step 1 (b || aw1 A r t 0) (by omega)
        rw [Bool.or_assoc] at this
        exact this) (by
      unfold s210L4L9
      exact iteT (show nI 2 ≤ nI 2 by decide) rfl) (n := 1000) (by omega)
    exact e
  have e := mLoop_seq0 (b := s210L4 μ 200 (nI r)) (fun i => (bI (awt A r i), nI i)) 10 (o := .inl (bI (awt A r 10))) (fun i hi => by
    unfold s210L4
    refine iteF (by show ¬ nI 10 ≤ nI i; rw [nI_leI (by omega) (by omega)]; omega) (bindS (inner i (awt A r i) hi) ?_)
    show some (Sum.inl (bI _, nI i + nI 1)) = _
    rw [nI_add]; rfl) (by
    unfold s210L4
    exact iteT (show nI 10 ≤ nI 10 by decide) rfl) (n := 1000) (by omega)
  unfold s210
  refine bindS e ?_
  show (if _ then _ else _) = _
  exact iteT (by cases awt A r 10 <;> decide) rfl
end TA
