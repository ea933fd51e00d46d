/-! the tick: whether a link carries video -/
section TT
variable {μ ν : mM} {A : Ab} {r t d n m k f q : Nat}
def vid1 (A : Ab) (r t : Nat) : Bool := us A t r 0 && (aT A t 1 == 0)
def vid (A : Ab) (r : Nat) : Nat → Bool
  | 0 => false
  | n + 1 => vid A r n || vid1 A r n
theorem vid_n {m : Nat} (h : vid A r n = true) (hm : n ≤ m) : vid A r m = true := by
  induction m with
  | zero => rw [show n = 0 by omega] at h; exact h
  | succ m ih =>
    by_cases e : n = m + 1
    · rw [← e]; exact h
    · show (vid A r m || _) = true
      rw [ih (by omega)]; rfl
theorem j11 (hC : CS μ f A) (ht : WFt A) (hu : WFu A) (hr : r < 8) : s11 μ q f (nI r) = some (bI (vid A r 10)) := by
  have hF := hC.1
  obtain ⟨o, e, h3⟩ := mLoop_find (b := s11L2 μ f (nI r)) (fun i => nI i) 10 (fun i => vid1 A r i = true) (fun i => .inr 1) (.inl ()) (fun i hi hp => by
    have mc := m_cl (show i < 2 ^ 31 by omega)
    have tp : mP μ (mP μ f 1) (Int32.toNatClampNeg (nI i)) = tu f i := by rw [FabL.p1 hF, mc, FabL.tp hF hi]
    unfold vid1 at hp
    rw [Bool.and_eq_true] at hp
    have ho := (us_iff.mp hp.1).1
    have h80 := j80 hC hu hi
    rw [show ((aT A i 0 == 1) && (aT A i 1 == 0)) = true by rw [hp.2]; simp [ho]] at h80
    unfold s11L2
    exact iteF (by show ¬ nI 10 ≤ nI i; rw [nI_leI (by omega) (by omega)]; omega) (iteT (by rw [FabL.s0 hF]) (iteT (by rw [FabL.p1 hF, FabL.s2 hF]; exact ⟨rfl, (mInb_iff (by omega)).mpr hi⟩) (iteT (by rw [tp, FabL.ts hF hi]) (bindS (v := bI true) (by rw [tp]; exact h80) (iteF (by decide) (bindS (v := bI (us A i r 0)) (by rw [tp]; exact j79 hC ht hu hi (by omega)) (iteF (by rw [hp.1]; decide) rfl))))))) ) (fun i hi hp => by
    have mc := m_cl (show i < 2 ^ 31 by omega)
    have tp : mP μ (mP μ f 1) (Int32.toNatClampNeg (nI i)) = tu f i := by rw [FabL.p1 hF, mc, FabL.tp hF hi]
    have h80 := j80 hC hu hi
    have nx : some (Sum.inl (nI i + nI 1) : (Int32) ⊕ ((Unit) ⊕ Int32)) = some (Sum.inl (nI (i + 1))) := by rw [nI_add]
    unfold s11L2
    refine iteF (by show ¬ nI 10 ≤ nI i; rw [nI_leI (by omega) (by omega)]; omega) (iteT (by rw [FabL.s0 hF]) (iteT (by rw [FabL.p1 hF, FabL.s2 hF]; exact ⟨rfl, (mInb_iff (by omega)).mpr hi⟩) (iteT (by rw [tp, FabL.ts hF hi]) (bindS (v := bI ((aT A i 0 == 1) && (aT A i 1 == 0))) (by rw [tp]; exact h80) ?_))))
    by_cases c : ((aT A i 0 == 1) && (aT A i 1 == 0)) = true
    · have uf : us A i r 0 = false := by
        cases z : us A i r 0
        · rfl
        · exfalso
          apply hp
          unfold vid1
          rw [Bool.and_eq_true] at c
          rw [z, c.2]; rfl
      rw [c]
      exact iteF (by decide) (bindS (v := bI (us A i r 0)) (by rw [tp]; exact j79 hC ht hu hi (by omega)) (iteT (by rw [uf]; rfl) nx))
    · rw [show ((aT A i 0 == 1) && (aT A i 1 == 0)) = false by simpa using c]
      exact iteT rfl nx) (by
    unfold s11L2
    exact iteT (show nI 10 ≤ nI 10 by decide) rfl) (n := 1000) (by omega)
  unfold s11
  refine bindS e ?_
  rcases h3 with ⟨i, hi, q1, q2, rfl⟩ | ⟨q1, rfl⟩
  · have : vid A r 10 = true := by
      refine vid_n (n := i + 1) ?_ (by omega)
      show (vid A r i || _) = true
      rw [q1, Bool.or_true]
    rw [this]; rfl
  · have : ∀ n, n ≤ 10 → vid A r n = false := by
      intro n
      induction n with
      | zero => intro _; rfl
      | succ n ih =>
        intro hn
        show (vid A r n || _) = false
        rw [ih (by omega)]
        have := q1 n (by omega)
        simpa using this
    rw [this 10 (by omega)]; rfl
theorem k217 (hM : RS μ A) (ht : WFt A) (hu : WFu A) (hr : r < 8) : s217 μ 200 (nI r) = some (bI (vid A r 10)) := by
  have hR := hM.1
  have e := mLoop_seq0 (b := s217L4 μ 200 (nI r)) (fun i => (bI (vid A r i), nI i)) 10 (o := .inl (bI (vid A r 10))) (fun i hi => by
    have n1 : ∀ b, some (Sum.inl (bI b, nI i + nI 1) : (Int32 × Int32) ⊕ ((Int32) ⊕ Int32)) = some (Sum.inl (bI b, nI (i + 1))) := fun b => by rw [nI_add]
    unfold s217L4
    refine iteF (by show ¬ nI 10 ≤ nI i; rw [nI_leI (by omega) (by omega)]; omega) ?_
    show _ = some (Sum.inl (bI (vid A r i || vid1 A r i), nI (i + 1)))
    by_cases z : vid A r i = true
    · simp only [z]
      exact iteT (show ¬ bI true = 0 by decide) (n1 true)
    · have z' : vid A r i = false := by simpa using z
      simp only [z']
      refine iteF (show ¬ ¬ bI false = 0 by decide) (iteT (by rw [RefL.s hR]) (bindS (v := bI (us A i r 0)) (k162 hM ht hu hr hi (d := 0) (by omega)) ?_))
      unfold vid1
      by_cases u : us A i r 0 = true
      · obtain ⟨-, -, -, -, -, ho, -⟩ := us_hx ht hu hi (by omega) u
        obtain ⟨o1, -⟩ := hu.o hi ho
        rw [u]
        refine iteF (by decide) (bindS (k159 hM hi (k := 1) (by omega)) ?_)
        by_cases k : aT A i 1 = 0
        · rw [show (aT A i 1 == 0) = true by simp [k]]
          exact iteF (by rw [k]; decide) (n1 true)
        · rw [show (aT A i 1 == 0) = false by simp [k]]
          exact iteT (by show ¬ nI _ = nI 0; rw [nI_eq (by omega) (by omega)]; exact k) (n1 false)
      · rw [show us A i r 0 = false by simpa using u]
        exact iteT rfl (n1 false)) (by
    unfold s217L4
    exact iteT (show nI 10 ≤ nI 10 by decide) rfl) (n := 1000) (by omega)
  unfold s217
  refine bindS e ?_
  show (if _ then _ else _) = _
  exact iteT (by cases vid A r 10 <;> decide) rfl
end TT
