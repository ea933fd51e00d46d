/-! open: the class lays a tunnel -/
section OL
variable {μ ν : mM} {A B : Ab} {f r k t v w d h q : Nat}
theorem wy_tu (hd : d < 2) : tu f t + 1 ≤ wy f t d ∧ wy f t d + 6 ≤ tu f t + 13 := by unfold wy tu; omega
/-- only a closed tunnel's rows change -/
def FrT (f t : Nat) (μ ν : mM) : Prop := Fr (tu f t) (tu f t + 13) μ ν ∧ mI ν (tu f t) 0 = mI μ (tu f t) 0
theorem FrT.refl (f t : Nat) (μ : mM) : FrT f t μ μ := ⟨Fr.refl _ _ _, rfl⟩
theorem FrT.trans {μ1 μ2 : mM} (h1 : FrT f t μ μ1) (h2 : FrT f t μ1 μ2) : FrT f t μ μ2 := ⟨h1.1.trans h2.1, h2.2.trans h1.2⟩
theorem FrT_tu {x : Int32} {j : Nat} (h : ¬ j = 0) : FrT f t μ (mUI μ (tu f t) j x) := ⟨Fr_UI _ (by omega) (by omega) _ _, by rw [mI_UI, if_neg (by omega)]⟩
theorem FrT_wy (hd : d < 2) (h : Fr (wy f t d) (wy f t d + 6) μ ν) : FrT f t μ ν := by
  have := wy_tu (f := f) (t := t) hd
  exact ⟨h.mono (by omega) (by omega), by rw [(h.2 (tu f t) (by omega)).1]⟩
theorem CS_ct (hC : CS μ f A) (htt : t < 10) (h0 : ¬ aT A t 0 = 1) (hf : FrT f t μ ν) : CS ν f A := by
  obtain ⟨hF, h1, h2, h3, h4, h5, h6, h7, h8⟩ := hC
  have rr : ∀ a j, a < 8 → j < 6 → mI ν (ro f a + j) = mI μ (ro f a + j) ∧ mF ν (ro f a + j) = mF μ (ro f a + j) := fun a j ha hj => hf.1.2 _ (by unfold ro tu; omega)
  have rt : ∀ a, ¬ a = t → mI ν (tu f a) = mI μ (tu f a) := fun a y => (hf.1.2 _ (by unfold tu; omega)).1
  have rw' : ∀ a b j, ¬ a = t → b < 2 → j < 6 → mI ν (wy f a b + j) = mI μ (wy f a b + j) := fun a b j y hb hj => (hf.1.2 _ (by unfold tu wy; omega)).1
  have ne : ∀ a, aT A a 0 = 1 → ¬ a = t := fun a z y => h0 (by rw [← y]; exact z)
  refine ⟨by rw [hf.1.S, hf.1.P]; exact hF, ?_, fun a ha => ?_, fun a ha hp => ?_, fun a a1 ha hp => ?_, fun a ha => ?_, fun a ha ho => ?_, fun a b ha ho hb => ?_, fun a b c ha ho hb hc => ?_⟩
  · rw [(hf.1.2 f (by unfold tu; omega)).1]; exact h1
  · have := (rr a 0 ha (by omega)).1
    rw [Nat.add_zero] at this
    rw [this]; exact h2 a ha
  · have := (rr a 0 ha (by omega)).1
    rw [Nat.add_zero] at this
    rw [this]; exact h3 a ha hp
  · rw [(rr a 1 ha (by omega)).1, (rr a 2 ha (by omega)).1, (rr a 3 ha (by omega)).1, (rr a 5 ha (by omega)).2]; exact h4 a a1 ha hp
  · by_cases y : a = t
    · rw [y, hf.2]; exact h5 t htt
    · rw [rt a y]; exact h5 a ha
  · rw [rt a (ne a ho)]; exact h6 a ha ho
  · have := rw' a b 0 (ne a ho) hb (by omega)
    rw [Nat.add_zero] at this
    rw [this]; exact h7 a b ha ho hb
  · rw [rw' a b 1 (ne a ho) hb (by omega), rw' a b 2 (ne a ho) hb (by omega), rw' a b 3 (ne a ho) hb (by omega), rw' a b 4 (ne a ho) hb (by omega)]; exact h8 a b c ha ho hb hc
theorem j88 {l : Nat} {x y z : Int32} (hF : FabL (mS μ) (mP μ) f) (htt : t < 10) (hd : d < 2) (hl : l < 4) (e1 : mI μ (wy f t d) 1 = nI l) : ∃ ν, s88 μ (wy f t d) x y z = some ν ∧ Fr (wy f t d) (wy f t d + 6) μ ν ∧ (mI ν (wy f t d) 1 = nI (l + 1) ∧ ∀ j, ¬ j = 1 → mI ν (wy f t d) j = mI μ (wy f t d) j) ∧ ∀ j, mI ν (wy f t d + 1) j = (if j = l then x else mI μ (wy f t d + 1) j) ∧ mI ν (wy f t d + 2) j = (if j = l then y else mI μ (wy f t d + 2) j) ∧ mI ν (wy f t d + 3) j = (if j = l then z else mI μ (wy f t d + 3) j) ∧ mI ν (wy f t d + 4) j = (if j = l then nI 0 else mI μ (wy f t d + 4) j) ∧ mI ν (wy f t d + 5) j = (if j = l then nI 0 else mI μ (wy f t d + 5) j) := by
  refine ⟨mUI (mUI (mUI (mUI (mUI (mUI μ (wy f t d + 1) l x) (wy f t d + 2) l y) (wy f t d + 3) l z) (wy f t d + 4) l (nI 0)) (wy f t d + 5) l (nI 0)) (wy f t d) 1 (nI (l + 1)), ?_, ?_, ⟨?_, fun j hj => ?_⟩, fun j => ?_⟩
  · unfold s88
    refine iteT (by rw [FabL.ws hF htt hd]) (iteF (by rw [e1, L_0, nI_ltI (by omega) (by omega)]; omega) (iteT (by rw [e1, L_4, nI_ltI (by omega) (by omega)]; exact hl) ?_))
    refine stA (q' := wy f t d + 1) (n := 4) (j := l) (x' := x) (FabL.w4 hF htt hd) (FabL.v1 hF htt hd) e1 hl (by omega) rfl ?_
    refine stA (q' := wy f t d + 2) (n := 4) (j := l) (x' := y) (FabL.w5 hF htt hd) (FabL.v2 hF htt hd) (by simp [mI_UI]; exact e1) hl (by omega) rfl ?_
    refine stA (q' := wy f t d + 3) (n := 4) (j := l) (x' := z) (FabL.w6 hF htt hd) (FabL.v3 hF htt hd) (by simp [mI_UI]; exact e1) hl (by omega) rfl ?_
    refine stA (q' := wy f t d + 4) (n := 4) (j := l) (x' := nI 0) (FabL.w7 hF htt hd) (FabL.v4 hF htt hd) (by simp [mI_UI]; exact e1) hl (by omega) rfl ?_
    refine stA (q' := wy f t d + 5) (n := 4) (j := l) (x' := nI 0) (FabL.w8 hF htt hd) (FabL.v5 hF htt hd) (by simp [mI_UI]; exact e1) hl (by omega) rfl ?_
    refine bindS (v := mUI (mUI (mUI (mUI (mUI (mUI μ (wy f t d + 1) l x) (wy f t d + 2) l y) (wy f t d + 3) l z) (wy f t d + 4) l (nI 0)) (wy f t d + 5) l (nI 0)) (wy f t d) 1 (nI (l + 1))) ?_ rfl
    rw [show mI (mUI (mUI (mUI (mUI (mUI μ (wy f t d + 1) l x) (wy f t d + 2) l y) (wy f t d + 3) l z) (wy f t d + 4) l (nI 0)) (wy f t d + 5) l (nI 0)) (wy f t d) 1 = nI l by simp [mI_UI]; exact e1, show nI l + 1 = nI (l + 1) from nI_add _ 1]
  · refine (((((Fr_UI _ ?_ ?_ _ _).trans (Fr_UI _ ?_ ?_ _ _)).trans (Fr_UI _ ?_ ?_ _ _)).trans (Fr_UI _ ?_ ?_ _ _)).trans (Fr_UI _ ?_ ?_ _ _)).trans (Fr_UI _ ?_ ?_ _ _) <;> omega
  · simp [mI_UI]
  · simp [mI_UI, hj]
  · refine ⟨?_, ?_, ?_, ?_, ?_⟩ <;> simp [mI_UI]
/-- a way laid as far as l -/
def LW (ν : mM) (f t d l : Nat) (A : Ab) (k v : Nat) : Prop := mI ν (wy f t d) 1 = nI l ∧ ∀ h, h < l → mI ν (wy f t d + 1) h = nI (hopR A v d h) ∧ mI ν (wy f t d + 2) h = nI (numN A (hopR A v d h) d) ∧ mI ν (wy f t d + 3) h = nI (crN k (free A (hopR A v d h) d)) ∧ mI ν (wy f t d + 4) h = nI 0 ∧ mI ν (wy f t d + 5) h = nI 0
theorem j47 {l : Nat} (hO : OpOK A t k v w) (hC : CS ν f A) (ht : WFt A) (hu : WFu A) (hk1 : mI ν (tu f t) 1 = nI k) (hd : d < 2) (hdk : ¬ (d = 1 ∧ k = 0)) (hl : l < dep A v) (hL : LW ν f t d l A k v) : ∃ ν', s47 ν f (tu f t) (nI d) (nI (hopR A v d l)) = some ν' ∧ LW ν' f t d (l + 1) A k v ∧ Fr (wy f t d) (wy f t d + 6) ν ν' ∧ ∀ j, ¬ j = 1 → mI ν' (wy f t d) j = mI ν (wy f t d) j := by
  obtain ⟨v1, d1, d4⟩ := hO.dev ht
  obtain ⟨h1, h2, h3, h4, h5, -⟩ := id hO
  have hF := hC.1
  obtain ⟨n1, n2⟩ := hO.hop hd hdk hl
  obtain ⟨c1, c2, c3, c4⟩ := crN_ok n2
  have hr : hopR A v d l < 8 ∧ aR A (hopR A v d l) 0 = 1 ∧ 1 ≤ hopR A v d l := by
    unfold hopR
    split
    · obtain ⟨a1, a2, a3⟩ := ht.an h4 h5 (dep A v - 1 - l)
      have h0 : ¬ anc A v (dep A v - 1 - l) = 0 := fun z => by have := (ht.anc0 h4 h5 (dep A v - 1 - l)).mp z; omega
      exact ⟨a1, a2, by omega⟩
    · obtain ⟨a1, a2, a3⟩ := ht.an h4 h5 l
      have h0 : ¬ anc A v l = 0 := fun z => by have := (ht.anc0 h4 h5 l).mp z; omega
      exact ⟨a1, a2, by omega⟩
  obtain ⟨r1, r2, r3⟩ := hr
  have nl := numN_le (A := A) (r := hopR A v d l) (d := d)
  obtain ⟨ν', e1, e2, e3, e4⟩ := j88 (x := nI (hopR A v d l)) (y := nI (numN A (hopR A v d l) d)) (z := nI (crN k (free A (hopR A v d l) d))) hF h1 hd (show l < 4 by omega) hL.1
  refine ⟨ν', ?_, ⟨e3.1, fun h hh => ?_⟩, e2, e3.2⟩
  · unfold s47
    refine iteT (by rw [FabL.ts hF h1]) (bindS (v := nI (mostC k)) (by rw [hk1]; exact j140 h3) (iteT (by rw [FabL.s0 hF]) (bindS (j36 hC ht hu r3 r1 r2 hd) (bindS (j78 hF h1 hd) (bindS (v := nI (numN A (hopR A v d l) d)) ?_ (iteT (by rw [FabL.ws hF h1 hd]) ?_))))))
    · rw [j37 hC ht hu r1 hd, if_neg n1]
    · rw [c1]; exact bindS e1 rfl
  · obtain ⟨g1, g2, g3, g4, g5⟩ := e4 h
    by_cases y : h = l
    · subst y
      rw [g1, g2, g3, g4, g5, if_pos rfl, if_pos rfl, if_pos rfl, if_pos rfl, if_pos rfl]
      exact ⟨rfl, rfl, rfl, rfl, rfl⟩
    · rw [g1, g2, g3, g4, g5, if_neg y, if_neg y, if_neg y, if_neg y, if_neg y]
      exact hL.2 h (by omega)
theorem j48 {m : Nat} (hC : CS ν f A) (ht : WFt A) (hv : v < 8) (hp : aR A v 0 = 1) (h1 : 1 ≤ m) (hm : m ≤ dep A v) : s48 ν f (nI v) (nI m) = some (nI (anc A v (dep A v - m))) := by
  have hF := hC.1
  have h4 := ht.dep4 hv hp
  have e : mLoop (s48L4 ν f (nI m)) 1000 (nI v, nI 0) = some (.inl (nI (anc A v (dep A v - m)))) := mLoop_seq0 (b := s48L4 ν f (nI m)) (fun i => (nI (anc A v i), nI i)) (dep A v - m) (fun i hi => by
    obtain ⟨a1, a2, a3⟩ := ht.an hv hp i
    unfold s48L4
    refine iteF (by show ¬ nI 4 ≤ nI i; rw [nI_leI (by omega) (by omega)]; omega) (iteT (by rw [FabL.s0 hF]) (bindS (j18 hF a1) (iteT (by rw [FabL.rs hF a1]) (iteF ?_ (bindS (j18 hF a1) (iteT (by rw [FabL.rs hF a1]) ?_))))))
    · rw [RepC.r5 hC.2 a1 a2, nI_leI (by omega) (by omega)]; omega
    · rw [RepC.r3 hC.2 a1 a2, show nI i + 1 = nI (i + 1) from nI_add _ 1]; rfl) (by
    obtain ⟨a1, a2, a3⟩ := ht.an hv hp (dep A v - m)
    unfold s48L4
    refine iteF (by show ¬ nI 4 ≤ nI (dep A v - m); rw [nI_leI (by omega) (by omega)]; omega) (iteT (by rw [FabL.s0 hF]) (bindS (j18 hF a1) (iteT (by rw [FabL.rs hF a1]) (iteT ?_ rfl))))
    rw [RepC.r5 hC.2 a1 a2, nI_leI (by omega) (by omega)]; omega) (n := 1000) (by omega)
  unfold s48
  exact bindS e rfl
theorem j45 (hO : OpOK A t k v w) (hC : CS ν f A) (ht : WFt A) (hu : WFu A) (hk1 : mI ν (tu f t) 1 = nI k) (hk2 : mI ν (tu f t) 2 = nI v) (hl : mI ν (wy f t 0) 1 = nI 0) : ∃ ν', s45 ν f (tu f t) = some ν' ∧ LW ν' f t 0 (dep A v) A k v ∧ Fr (wy f t 0) (wy f t 0 + 6) ν ν' ∧ mI ν' (wy f t 0) 0 = nI 1 ∧ ∀ j, 2 ≤ j → mI ν' (wy f t 0) j = mI ν (wy f t 0) j := by
  obtain ⟨v1, d1, d4⟩ := hO.dev ht
  obtain ⟨h1, h2, h3, h4, h5, -⟩ := id hO
  have hF := hC.1
  have wt := wy_tu (f := f) (t := t) (d := 0) (by omega)
  obtain ⟨ν1, e1, g1, g2, g3⟩ := mLoop_mem (b := s45L8 f (tu f t) (nI (dep A v))) (μ := ν) (fun i ρ => LW ρ f t 0 i A k v ∧ Fr (wy f t 0) (wy f t 0 + 6) ν ρ ∧ ∀ j, ¬ j = 1 → mI ρ (wy f t 0) j = mI ν (wy f t 0) j) 1 (dep A v) (fun i ρ hi hJ => by
    obtain ⟨g1, g2, g3⟩ := hJ
    have hCρ : CS ρ f A := CS_ct hC h1 (by omega) (FrT_wy (by omega) g2)
    have hF := hCρ.1
    have rt := (g2.2 (tu f t) (by omega)).1
    obtain ⟨ρ', q1, q2, q3, q4⟩ := j47 (l := i) hO hCρ ht hu (by rw [rt]; exact hk1) (d := 0) (by omega) (by omega) hi g1
    refine ⟨ρ', ?_, q2, g2.trans q3, fun j hj => (q4 j hj).trans (g3 j hj)⟩
    unfold s45L8
    refine iteF (by show ¬ nI (dep A v) < nI (1 + i); rw [nI_ltI (by omega) (by omega)]; omega) (iteF (by show ¬ nI 4 < nI (1 + i); rw [nI_ltI (by omega) (by omega)]; omega) (iteT (by rw [FabL.ts hF h1]) (iteT (by rw [FabL.s0 hF]) ?_)))
    refine bindS (v := nI (hopR A v 0 i)) ?_ (bindS (v := ρ') q1 ?_)
    · show s48 ρ f (mI ρ (tu f t) 2) (nI (1 + i)) = _
      rw [rt, hk2, j48 hCρ ht h4 h5 (by omega) (by omega)]
      unfold hopR; rw [if_pos rfl, show dep A v - (1 + i) = dep A v - 1 - i by omega]
    · show some (Sum.inl (nI (1 + i) + 1, ρ')) = _
      rw [show nI (1 + i) + 1 = nI (1 + i + 1) from nI_add _ 1]) (fun ρ hJ => by
    unfold s45L8
    exact iteT (by show nI (dep A v) < nI (1 + dep A v); rw [nI_ltI (by omega) (by omega)]; omega) rfl) ⟨⟨hl, fun h hh => by omega⟩, Fr.refl _ _ _, fun _ _ => rfl⟩ (n := 1000) (by omega)
  have hF1 : FabL (mS ν1) (mP ν1) f := by rw [g2.S, g2.P]; exact hF
  refine ⟨mUI ν1 (wy f t 0) 0 (nI 1), ?_, ⟨by rw [mI_UI, if_neg (by omega)]; exact g1.1, fun h hh => ?_⟩, g2.trans (Fr_UI _ (by omega) (by omega) _ _), by rw [mI_UI, if_pos ⟨rfl, rfl⟩], fun j hj => ?_⟩
  · unfold s45
    refine iteT (by rw [FabL.ts hF h1]) (iteT (by rw [FabL.s0 hF]) (bindS (v := ro f v) (by rw [hk2]; exact j18 hF h4) (iteT (by rw [FabL.rs hF h4]) ?_)))
    rw [RepC.r5 hC.2 h4 h5]
    refine bindS e1 ?_
    show s45_25 f (tu f t) ν1 = _
    unfold s45_25
    refine iteT (by rw [FabL.ts hF1 h1]) (iteT (by rw [FabL.td hF1 h1, FabL.ws hF1 h1 (by omega)]) ?_)
    rw [FabL.td hF1 h1]; rfl
  · rw [mI_UI, if_neg (by omega), mI_UI, if_neg (by omega), mI_UI, if_neg (by omega), mI_UI, if_neg (by omega), mI_UI, if_neg (by omega)]
    exact g1.2 h hh
  · rw [mI_UI, if_neg (by omega)]; exact g3 j (by omega)
theorem j46 (hO : OpOK A t k v w) (hk0 : ¬ k = 0) (hC : CS ν f A) (ht : WFt A) (hu : WFu A) (hk1 : mI ν (tu f t) 1 = nI k) (hk2 : mI ν (tu f t) 2 = nI v) (hl : mI ν (wy f t 1) 1 = nI 0) : ∃ ν', s46 ν f (tu f t) = some ν' ∧ LW ν' f t 1 (dep A v) A k v ∧ Fr (wy f t 1) (wy f t 1 + 6) ν ν' ∧ mI ν' (wy f t 1) 0 = nI 1 ∧ ∀ j, 2 ≤ j → mI ν' (wy f t 1) j = mI ν (wy f t 1) j := by
  obtain ⟨v1, d1, d4⟩ := hO.dev ht
  obtain ⟨h1, h2, h3, h4, h5, -⟩ := id hO
  have hF := hC.1
  have wt := wy_tu (f := f) (t := t) (d := 1) (by omega)
  obtain ⟨o, e1, ν1, rfl, g1, g2, g3⟩ := mLoop_inv0 (b := s46L5 f (tu f t)) (fun i s => s.1 = nI (anc A v i) ∧ s.2.1 = nI i ∧ LW s.2.2 f t 1 i A k v ∧ Fr (wy f t 1) (wy f t 1 + 6) ν s.2.2 ∧ ∀ j, ¬ j = 1 → mI s.2.2 (wy f t 1) j = mI ν (wy f t 1) j) (dep A v) (fun o => ∃ ρ, o = .inl ρ ∧ LW ρ f t 1 (dep A v) A k v ∧ Fr (wy f t 1) (wy f t 1 + 6) ν ρ ∧ ∀ j, ¬ j = 1 → mI ρ (wy f t 1) j = mI ν (wy f t 1) j) (fun i s hi hI => by
    obtain ⟨x, y, ρ⟩ := s
    obtain ⟨i1, i2, g1, g2, g3⟩ := hI
    simp only at i1 i2 g1 g2 g3
    subst i1 i2
    left
    obtain ⟨a1, a2, a3⟩ := ht.an h4 h5 i
    have h0 : ¬ anc A v i = 0 := fun z => by have := (ht.anc0 h4 h5 i).mp z; omega
    have hCρ : CS ρ f A := CS_ct hC h1 (by omega) (FrT_wy (by omega) g2)
    have hF := hCρ.1
    have rt := (g2.2 (tu f t) (by omega)).1
    obtain ⟨ρ', q1, q2, q3, q4⟩ := j47 (l := i) hO hCρ ht hu (by rw [rt]; exact hk1) (d := 1) (by omega) (by omega) hi g1
    have hR1 : hopR A v 1 i = anc A v i := by unfold hopR; rw [if_neg (by omega)]
    rw [hR1] at q1
    have hC' : CS ρ' f A := CS_ct hCρ h1 (by omega) (FrT_wy (by omega) q3)
    refine ⟨(nI (anc A v (i + 1)), nI (i + 1), ρ'), ?_, rfl, rfl, q2, g2.trans q3, fun j hj => (q4 j hj).trans (g3 j hj)⟩
    unfold s46L5
    refine iteF (by show ¬ nI 4 ≤ nI i; rw [nI_leI (by omega) (by omega)]; omega) (iteF (by show ¬ nI (anc A v i) = nI 0; rw [nI_eq (by omega) (by omega)]; exact h0) (iteT (by rw [FabL.s0 hF]) (bindS q1 (iteT (by rw [FabL.s0 hC'.1]) (bindS (j18 hC'.1 a1) (iteT (by rw [FabL.rs hC'.1 a1]) ?_))))))
    rw [RepC.r3 hC'.2 a1 a2, show nI i + 1 = nI (i + 1) from nI_add _ 1]; rfl) (fun s hI => by
    obtain ⟨x, y, ρ⟩ := s
    obtain ⟨i1, i2, g1, g2, g3⟩ := hI
    simp only at i1 i2 g1 g2 g3
    subst i1 i2
    have h0 := (ht.anc0 h4 h5 (dep A v)).mpr (Nat.le_refl _)
    refine ⟨_, ?_, ρ, rfl, g1, g2, g3⟩
    unfold s46L5
    by_cases z : (4 : Int32) ≤ nI (dep A v)
    · exact iteT z rfl
    · exact iteF z (iteT (by show nI (anc A v (dep A v)) = 0; rw [h0]; rfl) rfl)) (s := (nI v, nI 0, ν)) ⟨rfl, rfl, ⟨hl, fun h hh => by omega⟩, Fr.refl _ _ _, fun _ _ => rfl⟩ (n := 1000) (by omega)
  have hF1 : FabL (mS ν1) (mP ν1) f := by rw [g2.S, g2.P]; exact hF
  refine ⟨mUI ν1 (wy f t 1) 0 (nI 1), ?_, ⟨by rw [mI_UI, if_neg (by omega)]; exact g1.1, fun h hh => ?_⟩, g2.trans (Fr_UI _ (by omega) (by omega) _ _), by rw [mI_UI, if_pos ⟨rfl, rfl⟩], fun j hj => ?_⟩
  · unfold s46
    refine iteT (by rw [FabL.ts hF h1]) ?_
    rw [hk2]
    refine bindS e1 ?_
    show s46_22 f (tu f t) ν1 = _
    unfold s46_22
    refine iteT (by rw [FabL.ts hF1 h1]) (iteT (by rw [FabL.tw hF1 h1, FabL.ws hF1 h1 (by omega)]) ?_)
    rw [FabL.tw hF1 h1]; rfl
  · rw [mI_UI, if_neg (by omega), mI_UI, if_neg (by omega), mI_UI, if_neg (by omega), mI_UI, if_neg (by omega), mI_UI, if_neg (by omega)]
    exact g1.2 h hh
  · rw [mI_UI, if_neg (by omega)]; exact g3 j (by omega)
/-- a link roused, by the class -/
theorem j57 (hC : CS ν f A) (hw : WN A) (ht : WFt A) (h1 : 1 ≤ r) (hr : r < 8) (hp : aR A r 0 = 1) : ∃ ν', s57 ν (ro f r + 1) = some ν' ∧ CS ν' f (rs1 A r) ∧ Fr (ro f r + 1) (ro f r + 2) ν ν' ∧ mI ν' (ro f r + 1) 1 = mI ν (ro f r + 1) 1 := by
  have hF := hC.1
  obtain ⟨-, -, -, -, -, -, -, -, w9, w10, -⟩ := ht.w h1 hr hp
  have g2 := RepC.g2 hC.2 h1 hr hp
  have l2 : (mS ν (ro f r + 1)).1 = 2 := by rw [FabL.ls hF hr]
  unfold rs1
  by_cases e : aR A r 6 = 2
  · rw [if_pos e]
    rw [e] at g2
    have c1 := CS.uR6 (v := 3) hC hw hr
    have hw' : WN (setR A r 6 3) := fun t d a b => by
      have e3 : wN (setR A r 6 3) t d = wN A t d := wN_cg (fun x => by rw [aR_setR, if_neg (by omega)]) rfl rfl
      rw [e3]; exact hw t d a b
    have c2 := CS.uR8 (v := 2) c1 hw' hr
    refine ⟨_, ?_, c2, (Fr_UI _ (by omega) (by omega) _ _).trans (Fr_UI _ (by omega) (by omega) _ _), by rw [mI_UI, if_neg (by omega), mI_UI, if_neg (by omega)]⟩
    unfold s57
    refine iteT l2 (iteF (by rw [g2]; decide) (bindS (v := mUI (mUI ν (ro f r + 1) 2 (nI 3)) (ro f r + 1) 4 (nI 2)) ?_ rfl))
    unfold s56
    exact iteT l2 rfl
  · rw [if_neg e]
    have n2 : ¬ mI ν (ro f r + 1) 2 = 2 := by rw [g2, L_2, nI_eq (by omega) (by omega)]; exact e
    by_cases e2 : aR A r 6 = 1
    · rw [if_pos e2]
      refine ⟨_, ?_, CS.uR6 (v := 0) hC hw hr, Fr_UI _ (by omega) (by omega) _ _, by rw [mI_UI, if_neg (by omega)]⟩
      unfold s57
      exact iteT l2 (iteT n2 (iteF (by rw [g2, e2]; decide) rfl))
    · rw [if_neg e2]
      refine ⟨ν, ?_, hC, Fr.refl _ _ _, rfl⟩
      unfold s57
      exact iteT l2 (iteT n2 (iteT (by rw [g2, L_1, nI_eq (by omega) (by omega)]; exact e2) rfl))
end OL
