/-! the tick: the reference moves all cells -/
section TQ
variable {μ ν ν1 : mM} {A B : Ab} {r t d n m k a b v c e h : Nat} {sd : SD}
theorem k216t (hM : RS ν B) (ht : WFt B) (hu : WFu B) (hX : SRf ν sd) (htt : t < 10) (hso : aT B t 0 = 1 → ∀ d, d < 2 → SOt B sd t d) (hz : ∀ d h, d < 2 → h < 4 → ¬ (aT B t 0 = 1 ∧ h < wN B t d) → sd t d h = 0) : ∃ ν', s216L4 200 (nI c, nI t, ν) = some (.inl (nI (c + dv B sd t 0 + dv B sd t 1), nI (t + 1), ν')) ∧ RS ν' (mvT B sd t) ∧ Fr 201 202 ν ν' := by
  have hR := hM.1
  have l1 := hu.le1 htt
  have hs : ∀ d h, d < 2 → h < 4 → sd t d h ≤ if h = 0 then aW B t d 4 0 else aW B t d (h - 1) 2 := fun d h hd hh => by
    by_cases z : aT B t 0 = 1 ∧ h < wN B t d
    · exact (hso z.1 d hd h z.2).1
    · rw [hz d h hd hh z]; exact Nat.zero_le _
  obtain ⟨ν1, e1, c1, f1⟩ := k216h (z := nI c) hM htt hX hs
  obtain ⟨H0, hH0⟩ : ∃ H, H = hw (aW B t 0) (sd t 0) 4 := ⟨_, rfl⟩
  obtain ⟨H1, hH1⟩ : ∃ H, H = hw (aW B t 1) (sd t 1) 4 := ⟨_, rfl⟩
  rw [← hH0, ← hH1] at c1
  have pre : ∀ x ν3, mLoop (s216L4L76 200 (nI t)) 1000 (nI c, 0, ν1) = some (.inl (nI x, ν3)) → s216L4 200 (nI c, nI t, ν) = some (.inl (nI x, nI (t + 1), ν3)) := fun x ν3 hx => by
    unfold s216L4
    refine iteF (by show ¬ nI 10 ≤ nI t; rw [nI_leI (by omega) (by omega)]; omega) (bindS e1 (bindS hx ?_))
    show some (Sum.inl (_, nI t + nI 1, _)) = _
    rw [nI_add]
  by_cases ho : aT B t 0 = 1
  · obtain ⟨o1, o2, o3, o4, o5, o6, o7, o8, o9, o10, o11, o12⟩ := hu.o htt ho
    have d4 := ht.dep4 o3 o4
    have d0 := ht.dep0 o3 o4
    obtain ⟨D, hD⟩ : ∃ D, D = dep B (aT B t 2) := ⟨_, rfl⟩
    have D1 : 1 ≤ D := by
      by_cases z : dep B (aT B t 2) = 0
      · have := d0.mp z; omega
      · omega
    have n4 : ∀ d, wN B t d ≤ 4 := fun d => wN_le ht hu htt ho
    have hto : ∀ d, d < 2 → hw (aW B t d) (sd t d) 4 = hw (aW B t d) (sd t d) (wN B t d) := fun d hd => by
      have := hw_to (w := aW B t d) (s := sd t d) (n := wN B t d) (fun c x y => hz d c hd y (fun z => by omega)) (4 - wN B t d) (by have := n4 d; omega)
      rw [show wN B t d + (4 - wN B t d) = 4 by have := n4 d; omega] at this
      exact this
    have full : ∀ d, d < 2 → wN B t d = D → dl2 (hw (aW B t d) (sd t d) 4) D = wv B sd t d ∧ hw (aW B t d) (sd t d) 4 (D - 1) 2 = dv B sd t d := fun d hd hn => by
      unfold wv dv
      rw [if_pos ⟨ho, by omega⟩, if_pos ⟨ho, by omega⟩, hto d hd, hn]
      exact ⟨dl2_e (by omega), rfl⟩
    have n0 : wN B t 0 = D := by unfold wN; rw [if_neg (by omega), hD]
    obtain ⟨p1, p2⟩ := full 0 (by omega) n0
    rw [← hH0] at p1 p2
    have p34 : dl2 H1 D = wv B sd t 1 ∧ H1 (D - 1) 2 = dv B sd t 1 := by
      by_cases k0 : aT B t 1 = 0
      · have n1 : wN B t 1 = 0 := by unfold wN; rw [if_pos ⟨rfl, k0⟩]
        have hh := hto 1 (by omega)
        rw [← hH1, n1] at hh
        have hh' : H1 = aW B t 1 := hh
        have z2 := o11 1 (D - 1) 2 (by omega) (by omega) (by omega) (by omega)
        unfold wv dv
        rw [if_neg (fun z => z.2 n1), if_neg (fun z => z.2 n1), hh']
        refine ⟨?_, z2⟩
        unfold dl2
        rw [up2_same (show aW B t 1 4 1 = aW B t 1 4 1 + aW B t 1 (D - 1) 2 by rw [z2]; rfl), up2_same z2]
      · have n1 : wN B t 1 = D := by unfold wN; rw [if_neg (fun z => k0 z.2), hD]
        have := full 1 (by omega) n1
        rw [← hH1] at this
        exact this
    rw [stW_comm] at c1
    have eD0 : dep (stW B t 1 H1) (aT B t 2) = D := by rw [hD]; exact dep_cg (A := B) (A' := stW B t 1 H1) (fun _ => rfl)
    have eD1 : dep (stW B t 0 (dl2 H0 D)) (aT B t 2) = D := by rw [hD]; exact dep_cg (A := B) (A' := stW B t 0 (dl2 H0 D)) (fun _ => rfl)
    obtain ⟨ν2, a1, a2, a3⟩ := k216d (c := c) (A := stW B t 1 H1) (d := 0) c1 (ht.cg rfl rfl) o2 o3 o4 htt ho (by omega)
    have e0 : dep (stW B t 1 H1) (aT (stW B t 1 H1) t 2) = D := eD0
    rw [e0] at a1 a2
    rw [← stW_comm] at a2
    obtain ⟨ν3, b1, b2, b3⟩ := k216d (c := c + H0 (D - 1) 2) (A := stW B t 0 (dl2 H0 D)) (d := 1) a2 (ht.cg rfl rfl) o2 o3 o4 htt ho (by omega)
    have e1' : dep (stW B t 0 (dl2 H0 D)) (aT (stW B t 0 (dl2 H0 D)) t 2) = D := eD1
    rw [e1'] at b1 b2
    have e := mLoop_seq0 (b := s216L4L76 200 (nI t)) (fun i => if i = 0 then (nI c, nI 0, ν1) else if i = 1 then (nI (c + H0 (D - 1) 2), nI 1, ν2) else (nI (c + H0 (D - 1) 2 + H1 (D - 1) 2), nI 2, ν3)) 2 (o := .inl (nI (c + H0 (D - 1) 2 + H1 (D - 1) 2), ν3)) (fun i hi => by
      have : i = 0 ∨ i = 1 := by omega
      rcases this with e | e <;> subst e
      · exact a1
      · exact b1) (by
      unfold s216L4L76
      exact iteT (show nI 2 ≤ nI 2 by decide) rfl) (n := 1000) (by omega)
    refine ⟨ν3, ?_, ?_, (f1.trans a3).trans b3⟩
    · rw [← p2, ← p34.2]; exact pre _ _ e
    · unfold mvT
      rw [← p1, ← p34.1]; exact b2
  · have o0 : aT B t 0 = 0 := by omega
    have hto : ∀ d, d < 2 → hw (aW B t d) (sd t d) 4 = aW B t d := fun d hd => hw_to (w := aW B t d) (s := sd t d) (n := 0) (fun c x y => hz d c hd y (fun z => ho z.1)) 4 (by omega)
    have h0 : H0 = aW B t 0 := by rw [hH0]; exact hto 0 (by omega)
    have h1 : H1 = aW B t 1 := by rw [hH1]; exact hto 1 (by omega)
    have dz : ∀ d, dv B sd t d = 0 ∧ wv B sd t d = aW B t d := fun d => by
      unfold dv wv
      rw [if_neg (fun y => ho y.1), if_neg (fun y => ho y.1)]
      exact ⟨rfl, rfl⟩
    refine ⟨ν1, ?_, ?_, f1⟩
    · rw [(dz 0).1, (dz 1).1]
      refine pre _ _ ?_
      have x0 : s159 ν1 200 (nI t) (nI 0) = some (nI (aT B t 0)) := k159 (A := stW (stW B t 0 H0) t 1 H1) c1 htt (k := 0) (by omega)
      have e := mLoop_seq0 (b := s216L4L76 200 (nI t)) (fun _ => (nI c, nI 0, ν1)) 0 (o := .inl (nI c, ν1)) (fun i hi => by omega) (by
        unfold s216L4L76
        exact iteF (show ¬ nI 2 ≤ nI 0 by decide) (iteT (by rw [RefL.s c1.1]) (bindS x0 (iteT (by rw [o0]; decide) rfl)))) (n := 1000) (by omega)
      exact e
    · unfold mvT
      rw [(dz 0).2, (dz 1).2, ← h0, ← h1]; exact c1
theorem k216 (hM : RS μ A) (ht : WFt A) (hu : WFu A) (hs : SO A sd) (hX : SRf μ sd) : ∃ ν, s216 μ 200 = some (nI (tot A sd 10), ν) ∧ RS ν (mvN A sd 10) ∧ Fr 201 202 μ ν := by
  obtain ⟨o, e, ν, rfl, c1, f1⟩ := mLoop_inv0 (b := s216L4 200) (fun i st => ∃ ν, st = (nI (tot A sd i), nI i, ν) ∧ RS ν (mvN A sd i) ∧ Fr 201 202 μ ν) 10 (fun o => ∃ ν, o = .inl (nI (tot A sd 10), ν) ∧ RS ν (mvN A sd 10) ∧ Fr 201 202 μ ν) (fun i st hi hJ => by
    obtain ⟨ν, rfl, c1, f1⟩ := hJ
    obtain ⟨w1, w2, w3⟩ := mvN_wf ht hu hs i (by omega)
    obtain ⟨y1, y2, y3⟩ := mvN_1 (A := A) (sd := sd) i
    have eT : ∀ a k, aT (mvN A sd i) a k = aT A a k := fun a k => by show (mvN A sd i).2.1 a k = _; rw [y2]
    have eR : ∀ q, aR (mvN A sd i) q 3 = aR A q 3 := fun q => by show (mvN A sd i).1 q 3 = _; rw [y1]
    have eN : ∀ a b, wN (mvN A sd i) a b = wN A a b := fun a b => wN_cg (A := A) (A' := mvN A sd i) eR (eT a 1) (eT a 2)
    have hX' : SRf ν sd := fun a b c x1 x2 x3 => by rw [(f1.2 213 (by omega)).1]; exact hX a b c x1 x2 x3
    obtain ⟨ν', a1, a2, a3⟩ := k216t (c := tot A sd i) c1 w1 w2 hX' hi (fun ho d hd => w3 i d (Nat.le_refl _) hi hd (by rw [← eT]; exact ho)) (fun d h hd hh z => hs.2 i d h hi hd hh (fun y => z ⟨by rw [eT]; exact y.1, by rw [eN]; exact y.2⟩))
    exact Or.inl ⟨_, a1, ν', rfl, a2, f1.trans a3⟩) (fun st hJ => by
    obtain ⟨ν, rfl, c1, f1⟩ := hJ
    refine ⟨_, ?_, ν, rfl, c1, f1⟩
    unfold s216L4
    exact iteT (show nI 10 ≤ nI 10 by decide) rfl) (s := (0, 0, μ)) ⟨μ, rfl, hM, Fr.refl _ _ _⟩ (n := 1000) (by omega)
  refine ⟨ν, ?_, c1, f1⟩
  unfold s216
  exact bindS e rfl
end TQ
