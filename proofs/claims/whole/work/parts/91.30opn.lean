/-! open: the class's part, whole -/
section OM
variable {μ ν : mM} {A B : Ab} {f r k t v w d h q : Nat}
theorem j49 (hC : CS ν f A) (ht : WFt A) (hu : WFu A) (hv : v < 8) (hp : aR A v 0 = 1) : ∃ ν', s49 ν f (nI v) = some ν' ∧ CS ν' f (rzA A v (dep A v)) ∧ Fr (f + 3) (f + 51) ν ν' ∧ ∀ a, a < 8 → mI ν' (ro f a + 1) 1 = mI ν (ro f a + 1) 1 := by
  have h4 := ht.dep4 hv hp
  obtain ⟨o, e, ν', rfl, g1, g2, g3⟩ := mLoop_inv0 (b := s49L4 f) (fun i s => s.1 = nI (anc A v i) ∧ s.2.1 = nI i ∧ CS s.2.2 f (rzA A v i) ∧ Fr (f + 3) (f + 51) ν s.2.2 ∧ ∀ a, a < 8 → mI s.2.2 (ro f a + 1) 1 = mI ν (ro f a + 1) 1) (dep A v) (fun o => ∃ ρ, o = .inl ρ ∧ CS ρ f (rzA A v (dep A v)) ∧ Fr (f + 3) (f + 51) ν ρ ∧ ∀ a, a < 8 → mI ρ (ro f a + 1) 1 = mI ν (ro f a + 1) 1) (fun i s hi hI => by
    obtain ⟨x, y, ρ⟩ := s
    obtain ⟨i1, i2, g1, g2, g3⟩ := hI
    simp only at i1 i2 g1 g2 g3
    subst i1 i2
    left
    obtain ⟨a1, a2, a3⟩ := ht.an hv hp i
    have h0 : ¬ anc A v i = 0 := fun z => by have := (ht.anc0 hv hp i).mp z; omega
    have hF := g1.1
    have ht1 := rzA_wft (v := v) ht i
    have hu1 := rzA_wfu (v := v) hu i
    have hp1 : aR (rzA A v i) (anc A v i) 0 = 1 := by rw [(rzA_eq i).2 _ 0 (by omega) (by omega)]; exact a2
    obtain ⟨ρ', q1, q2, q3, q4⟩ := j57 g1 (WN.of ht1 hu1) ht1 (show 1 ≤ anc A v i by omega) a1 hp1
    have hF' := q2.1
    have hp2 : aR (rzA A v (i + 1)) (anc A v i) 0 = 1 := by rw [(rzA_eq (i + 1)).2 _ 0 (by omega) (by omega)]; exact a2
    have r3 := RepC.r3 (A := rzA A v (i + 1)) q2.2 a1 hp2
    rw [(rzA_eq (i + 1)).2 _ 3 (by omega) (by omega)] at r3
    refine ⟨(nI (anc A v (i + 1)), nI (i + 1), ρ'), ?_, rfl, rfl, q2, g2.trans (q3.mono (by unfold ro; omega) (by unfold ro; omega)), fun a ha => ?_⟩
    · unfold s49L4
      refine iteF (by show ¬ nI 4 ≤ nI i; rw [nI_leI (by omega) (by omega)]; omega) (iteF (by show ¬ nI (anc A v i) = nI 0; rw [nI_eq (by omega) (by omega)]; exact h0) (iteT (by rw [FabL.s0 hF]) (bindS (j18 hF a1) (iteT (by rw [FabL.rs hF a1]) (iteT (by rw [FabL.rl hF a1, FabL.ls hF a1]) (bindS (by rw [FabL.rl hF a1]; exact q1) (iteT (by rw [FabL.s0 hF']) (bindS (j18 hF' a1) (iteT (by rw [FabL.rs hF' a1]) ?_)))))))))
      rw [r3, show nI i + 1 = nI (i + 1) from nI_add _ 1]; rfl
    · show mI ρ' (ro f a + 1) 1 = _
      by_cases y : a = anc A v i
      · rw [y, q4, ← y]; exact g3 a ha
      · rw [(q3.2 (ro f a + 1) (by unfold ro; omega)).1]; exact g3 a ha) (fun s hI => by
    obtain ⟨x, y, ρ⟩ := s
    obtain ⟨i1, i2, g1, g2, g3⟩ := hI
    simp only at i1 i2 g1 g2 g3
    subst i1 i2
    have h0 := (ht.anc0 hv hp (dep A v)).mpr (Nat.le_refl _)
    refine ⟨_, ?_, ρ, rfl, g1, g2, g3⟩
    unfold s49L4
    by_cases z : (4 : Int32) ≤ nI (dep A v)
    · exact iteT z rfl
    · exact iteF z (iteT (by show nI (anc A v (dep A v)) = 0; rw [h0]; rfl) rfl)) (s := (nI v, nI 0, ν)) ⟨rfl, rfl, hC, Fr.refl _ _ _, fun _ _ => rfl⟩ (n := 1000) (by omega)
  refine ⟨ν', ?_, g1, g2, g3⟩
  unfold s49
  exact bindS e rfl
/-- the least closed tunnel, 10 if none -/
def lcN (A : Ab) : Nat := ff (fun t => aT A t 0 == 0) 0 10
theorem lcN_le : lcN A ≤ 10 ∧ (lcN A < 10 → aT A (lcN A) 0 = 0) ∧ ∀ j, j < lcN A → ¬ aT A j 0 = 0 := by
  unfold lcN
  rcases ff_spec (fun t => aT A t 0 == 0) 10 0 with ⟨h1, h2, h3, h4⟩ | ⟨h1, h2⟩
  · exact ⟨by omega, fun _ => by simpa using h3, fun j b => by simpa using h4 j (by omega) b⟩
  · rw [h1]; exact ⟨by omega, fun z => by omega, fun j b => by simpa using h2 j (by omega) (by omega)⟩
theorem lcN_lt (hu : WFu A) (hk : k ≤ 2) (hb : opN A k < (if k = 0 then 2 else 4)) : lcN A < 10 := by
  obtain ⟨h1, h2, h3⟩ := lcN_le (A := A)
  apply Classical.byContradiction
  intro z
  have all : ∀ j, j < 10 → aT A j 0 = 1 := fun j hj => by
    have := h3 j (by omega)
    have := hu.le1 hj
    omega
  have hs : opN A 0 + opN A 1 + opN A 2 = 10 := by
    unfold opN
    rw [← sumN_add, ← sumN_add]
    have := sumN_congr (g := fun i => (if aT A i 0 = 1 ∧ aT A i 1 = 0 then 1 else 0) + (if aT A i 0 = 1 ∧ aT A i 1 = 1 then 1 else 0) + (if aT A i 0 = 1 ∧ aT A i 1 = 2 then 1 else 0)) (h := fun _ => 1) (n := 10) (fun i hi => by
      have e := all i hi
      obtain ⟨o1, -⟩ := hu.o hi e
      have : aT A i 1 = 0 ∨ aT A i 1 = 1 ∨ aT A i 1 = 2 := by omega
      rcases this with e2 | e2 | e2 <;> simp [e, e2])
    rw [this, sumN_const]
  have b0 := hu.bay (k := 0) (by omega)
  have b1 := hu.bay (k := 1) (by omega)
  have b2 := hu.bay (k := 2) (by omega)
  simp only [if_true] at b0
  rw [if_neg (by omega)] at b1 b2
  have : k = 0 ∨ k = 1 ∨ k = 2 := by omega
  rcases this with e | e | e <;> subst e
  · rw [if_pos rfl] at hb; omega
  · rw [if_neg (by omega)] at hb; omega
  · rw [if_neg (by omega)] at hb; omega
theorem j44 (hC : CS μ f A) (hu : WFu A) (h : lcN A < 10) : s44 μ f = some (nI (lcN A)) := by
  have hF := hC.1
  obtain ⟨h1, h2, h3⟩ := lcN_le (A := A)
  have e : mLoop (s44L2 μ f) 1000 (nI 0) = some (.inr (nI (lcN A))) := mLoop_seq0 (b := s44L2 μ f) (fun i => nI i) (lcN A) (fun i hi => by
    have := h3 i hi
    have := hu.le1 (t := i) (by omega)
    unfold s44L2
    refine iteF (by show ¬ nI 10 ≤ nI i; rw [nI_leI (by omega) (by omega)]; omega) (iteT (by rw [FabL.s0 hF]) (iteT ?_ (iteT ?_ (iteT ?_ ?_))))
    · rw [FabL.p1 hF, FabL.s2 hF]; exact ⟨rfl, (mInb_iff (by omega)).mpr (by omega)⟩
    · rw [FabL.p1 hF, m_cl (by omega), FabL.tp hF (by omega), FabL.ts hF (by omega)]
    · rw [FabL.p1 hF, m_cl (by omega), FabL.tp hF (by omega), RepC.t0 hC.2 (by omega), show aT A i 0 = 1 by omega]; decide
    · rw [show nI i + 1 = nI (i + 1) from nI_add _ 1]) (by
    have z := h2 h
    unfold s44L2
    refine iteF (by show ¬ nI 10 ≤ nI (lcN A); rw [nI_leI (by omega) (by omega)]; omega) (iteT (by rw [FabL.s0 hF]) (iteT ?_ (iteT ?_ (iteF ?_ rfl))))
    · rw [FabL.p1 hF, FabL.s2 hF]; exact ⟨rfl, (mInb_iff (by omega)).mpr (by omega)⟩
    · rw [FabL.p1 hF, m_cl (by omega), FabL.tp hF (by omega), FabL.ts hF (by omega)]
    · rw [FabL.p1 hF, m_cl (by omega), FabL.tp hF (by omega), RepC.t0 hC.2 (by omega), z]; decide) (n := 1000) (by omega)
  unfold s44
  exact bindS e rfl
theorem CS_ins {row : Nat → Nat} {W0 : Nat → Nat → Nat → Nat} (hC : CS ν f B) (htt : t < 10) (h0 : ¬ aT B t 0 = 1) (hr0 : row 0 = 1) (hT : ∀ b, 1 ≤ b → b ≤ 5 → mI ν (tu f t) b = nI (row b)) (hw : ∀ d, d < 2 → mI ν (wy f t d) 0 = nI (wU (ins B t row W0) t d) ∧ mI ν (wy f t d) 1 = nI (wN (ins B t row W0) t d) ∧ mI ν (wy f t d) 2 = nI (W0 d 4 0) ∧ mI ν (wy f t d) 3 = nI (W0 d 4 1)) (hh : ∀ d h, d < 2 → h < wN (ins B t row W0) t d → mI ν (wy f t d + 1) h = nI (wP (ins B t row W0) t d h) ∧ mI ν (wy f t d + 2) h = nI (W0 d h 0) ∧ mI ν (wy f t d + 3) h = nI (W0 d h 1) ∧ mI ν (wy f t d + 4) h = nI (W0 d h 2)) : CS (mUI (mUI ν (tu f t) 0 (nI 1)) f 6 (nI (aC B 4 + 1))) f (ins B t row W0) := by
  obtain ⟨hF, h1, h2, h3, h4, h5, h6, h7, h8⟩ := hC
  have gn : ∀ a d, ¬ a = t → wN (ins B t row W0) a d = wN B a d := fun a d y => wN_cg (fun _ => rfl) (by rw [ins_T, if_neg y]) (by rw [ins_T, if_neg y])
  have gu : ∀ a d, ¬ a = t → wU (ins B t row W0) a d = wU B a d := fun a d y => wU_cg (by rw [ins_T, if_neg y])
  have gp : ∀ a d h, ¬ a = t → wP (ins B t row W0) a d h = wP B a d h := fun a d h y => wP_cg (A' := ins B t row W0) (A := B) (fun _ => rfl) (by rw [ins_T, if_neg y])
  have rro : ∀ a j, a < 8 → mI (mUI (mUI ν (tu f t) 0 (nI 1)) f 6 (nI (aC B 4 + 1))) (ro f a + j) = mI ν (ro f a + j) ∨ 6 ≤ j := fun a j ha => by
    by_cases y : 6 ≤ j
    · exact Or.inr y
    · left
      rw [mI_UIr (by unfold ro; omega), mI_UIr (by unfold ro tu; omega)]
  have rr : ∀ a j, a < 8 → j < 6 → mI (mUI (mUI ν (tu f t) 0 (nI 1)) f 6 (nI (aC B 4 + 1))) (ro f a + j) = mI ν (ro f a + j) := fun a j ha hj => (rro a j ha).resolve_right (by omega)
  have rwy : ∀ a b j, a < 10 → b < 2 → j < 6 → mI (mUI (mUI ν (tu f t) 0 (nI 1)) f 6 (nI (aC B 4 + 1))) (wy f a b + j) = mI ν (wy f a b + j) := fun a b j ha hb hj => by
    have hb2 : b = 0 ∨ b = 1 := by omega
    rw [mI_UIr (by unfold wy; omega), mI_UIr (by unfold wy tu; omega)]
  refine ⟨hF, ?_, fun a ha => ?_, fun a ha hp => ?_, fun a a1 ha hp => ?_, fun a ha => ?_, fun a ha ho => ?_, fun a b ha ho hb => ?_, fun a b c ha ho hb hc => ?_⟩
  · obtain ⟨c1, c2, c3, c4, c5⟩ := h1
    refine ⟨?_, ?_, ?_, ?_, ?_⟩
    · rw [mI_UI, if_neg (by omega), mI_UIr (by unfold tu; omega)]; exact c1
    · rw [mI_UI, if_neg (by omega), mI_UIr (by unfold tu; omega)]; exact c2
    · rw [mI_UI, if_neg (by omega), mI_UIr (by unfold tu; omega)]; exact c3
    · rw [mI_UI, if_neg (by omega), mI_UIr (by unfold tu; omega)]; exact c4
    · rw [mI_UI, if_pos ⟨rfl, rfl⟩]; rfl
  · have this : mI (mUI (mUI ν (tu f t) 0 (nI 1)) f 6 (nI (aC B 4 + 1))) (ro f a) = mI ν (ro f a) := rr a 0 ha (by omega)
    rw [this]; exact h2 a ha
  · have this : mI (mUI (mUI ν (tu f t) 0 (nI 1)) f 6 (nI (aC B 4 + 1))) (ro f a) = mI ν (ro f a) := rr a 0 ha (by omega)
    rw [this]
    have e := h3 a ha hp
    rw [← dep_cg (A := B) (A' := ins B t row W0) (fun _ => rfl)] at e
    exact e
  · rw [rr a 1 ha (by omega), rr a 2 ha (by omega), rr a 3 ha (by omega)]
    have e := h4 a a1 ha hp
    exact e
  · by_cases y : a = t
    · subst y
      rw [mI_UIr (by unfold tu; omega), mI_UI, if_pos ⟨rfl, rfl⟩, ins_T, if_pos rfl, hr0]
    · rw [mI_UIr (by unfold tu; omega), mI_UIr (by unfold tu; omega), ins_T, if_neg y]; exact h5 a ha
  · by_cases y : a = t
    · subst y
      rw [mI_UIr (q := tu f a) (by unfold tu; omega)]
      simp only [mI_UI, ins_T, if_true, show ¬ (1 : Nat) = 0 by omega, show ¬ (2 : Nat) = 0 by omega, show ¬ (3 : Nat) = 0 by omega, show ¬ (4 : Nat) = 0 by omega, show ¬ (5 : Nat) = 0 by omega, and_false, if_false]
      exact ⟨hT 1 (by omega) (by omega), hT 2 (by omega) (by omega), hT 3 (by omega) (by omega), hT 4 (by omega) (by omega), hT 5 (by omega) (by omega)⟩
    · rw [ins_T, if_neg y] at ho
      rw [mI_UIr (q := tu f a) (by unfold tu; omega), mI_UIr (q := tu f a) (by unfold tu; omega)]
      simp only [ins_T, if_neg y]
      exact h6 a ha ho
  · have e : mI (mUI (mUI ν (tu f t) 0 (nI 1)) f 6 (nI (aC B 4 + 1))) (wy f a b) = mI ν (wy f a b) := rwy a b 0 ha hb (by omega)
    rw [e]
    by_cases y : a = t
    · subst y
      rw [ins_W, if_pos rfl, ins_W, if_pos rfl]; exact hw b hb
    · rw [ins_T, if_neg y] at ho
      rw [gu a b y, gn a b y, ins_W, if_neg y, ins_W, if_neg y]; exact h7 a b ha ho hb
  · rw [rwy a b 1 ha hb (by omega), rwy a b 2 ha hb (by omega), rwy a b 3 ha hb (by omega), rwy a b 4 ha hb (by omega)]
    by_cases y : a = t
    · subst y
      rw [ins_W, if_pos rfl, ins_W, if_pos rfl, ins_W, if_pos rfl]; exact hh b c hb hc
    · rw [ins_T, if_neg y] at ho
      rw [gn a b y] at hc
      rw [gp a b c y, ins_W, if_neg y, ins_W, if_neg y, ins_W, if_neg y]; exact h8 a b c ha ho hb hc
theorem j87 (hF : FabL (mS μ) (mP μ) f) (htt : t < 10) (hd : d < 2) : ∃ ν, s87 μ (wy f t d) = some ν ∧ Fr (wy f t d) (wy f t d + 1) μ ν ∧ ∀ j, j ≤ 3 → mI ν (wy f t d) j = nI 0 := by
  refine ⟨mUI (mUI (mUI (mUI μ (wy f t d) 0 (nI 0)) (wy f t d) 1 (nI 0)) (wy f t d) 2 (nI 0)) (wy f t d) 3 (nI 0), ?_, ?_, fun j hj => ?_⟩
  · unfold s87
    exact iteT (by rw [FabL.ws hF htt hd]) rfl
  · refine (((Fr_UI _ ?_ ?_ _ _).trans (Fr_UI _ ?_ ?_ _ _)).trans (Fr_UI _ ?_ ?_ _ _)).trans (Fr_UI _ ?_ ?_ _ _) <;> omega
  · have : j = 0 ∨ j = 1 ∨ j = 2 ∨ j = 3 := by omega
    rcases this with e | e | e | e <;> subst e <;> simp [mI_UI]
/-- the state that comes out -/
def opA (A : Ab) (t k v w : Nat) : Ab := ins (rzA A v (if k = 0 then dep A v else 0)) t (opT A k v w) (opW A k v)
theorem opA_wf (hO : OpOK A t k v w) (ht : WFt A) (hu : WFu A) : WFt (opA A t k v w) ∧ WFu (opA A t k v w) := by
  unfold opA
  rw [← rzA_ins]
  have h1 : WFt (ins A t (opT A k v w) (opW A k v)) := ht.cg rfl rfl
  exact ⟨rzA_wft h1 _, rzA_wfu (wfu_ins hO ht hu) _⟩
theorem opA_w (hO : OpOK A t k v w) : (∀ d, wU (opA A t k v w) t d = if d = 1 ∧ k = 0 then 0 else 1) ∧ (∀ d, wN (opA A t k v w) t d = if d = 1 ∧ k = 0 then 0 else dep A v) ∧ (∀ d h, wP (opA A t k v w) t d h = hopR A v d h) ∧ ∀ a d, ¬ a = t → wN (opA A t k v w) a d = wN A a d := by
  have e3 : ∀ x, aR (opA A t k v w) x 3 = aR A x 3 := fun x => (rzA_eq _).2 x 3 (by omega) (by omega)
  have t1 : aT (opA A t k v w) t 1 = k := by show (if t = t then opT A k v w 1 else _) = _; rw [if_pos rfl]; rfl
  have t2 : aT (opA A t k v w) t 2 = v := by show (if t = t then opT A k v w 2 else _) = _; rw [if_pos rfl]; rfl
  have tn : ∀ a b, ¬ a = t → aT (opA A t k v w) a b = aT A a b := fun a b y => by
    show (if a = t then _ else aT (rzA A v _) a b) = _
    rw [if_neg y]; exact congrArg (fun z => z.1 a b) (rzA_eq _).1
  refine ⟨fun d => ?_, fun d => ?_, fun d h => ?_, fun a d y => wN_cg e3 (tn a 1 y) (tn a 2 y)⟩
  · unfold wU; rw [t1]
  · unfold wN; rw [t1, t2, dep_cg e3]
  · unfold wP hopR; rw [t2, dep_cg e3, anc_cg e3, anc_cg e3]
theorem j43 (hO : OpOK A (lcN A) k v w) (hC : CS μ f A) (ht : WFt A) (hu : WFu A) (hZ : SZ (mI μ) f A) : ∃ ν, s43 μ f (nI k) (nI v) (nI w) = some (nI (lcN A), ν) ∧ CS ν f (opA A (lcN A) k v w) ∧ SZ (mI ν) f (opA A (lcN A) k v w) ∧ Fr f (f + 181) μ ν ∧ (BZ (mI μ) f → BZ (mI ν) f) := by
  obtain ⟨v1, d1, d4⟩ := hO.dev ht
  obtain ⟨h1, h2, h3, h4, h5, h6, h7, h8, h9, h10⟩ := id hO
  have hF := hC.1
  have cl : ¬ aT A (lcN A) 0 = 1 := by omega
  generalize ht0 : lcN A = t at *
  have wt0 := wy_tu (f := f) (t := t) (d := 0) (by omega)
  have wt1 := wy_tu (f := f) (t := t) (d := 1) (by omega)
  have w01 : wy f t 0 + 6 = wy f t 1 := by unfold wy; omega
  -- the tunnel's own numbers
  have f1 : FrT f t μ (mUI (mUI (mUI μ (tu f t) 1 (nI k)) (tu f t) 2 (nI v)) (tu f t) 3 (nI w)) := ((FrT_tu (by omega)).trans (FrT_tu (by omega))).trans (FrT_tu (by omega))
  have x1 : mI (mUI (mUI (mUI μ (tu f t) 1 (nI k)) (tu f t) 2 (nI v)) (tu f t) 3 (nI w)) (tu f t) 1 = nI k := by simp [mI_UI]
  have x2 : mI (mUI (mUI (mUI μ (tu f t) 1 (nI k)) (tu f t) 2 (nI v)) (tu f t) 3 (nI w)) (tu f t) 2 = nI v := by simp [mI_UI]
  have x3 : mI (mUI (mUI (mUI μ (tu f t) 1 (nI k)) (tu f t) 2 (nI v)) (tu f t) 3 (nI w)) (tu f t) 3 = nI w := by simp [mI_UI]
  have c1 : CS (mUI (mUI (mUI μ (tu f t) 1 (nI k)) (tu f t) 2 (nI v)) (tu f t) 3 (nI w)) f A := CS_ct hC h1 cl f1
  have head : ∀ {R}, (∀ ρ : mM, ρ = mUI (mUI (mUI μ (tu f t) 1 (nI k)) (tu f t) 2 (nI v)) (tu f t) 3 (nI w) → s43_34 f (nI k) (nI v) (nI w) ρ (nI t) (tu f t) (nI (opT A k v w 4)) (tu f t) = R) → s43 μ f (nI k) (nI v) (nI w) = R := fun {R} hR => by
    unfold s43
    refine iteT (by rw [FabL.s0 hF]) (bindS (v := nI t) (by rw [j44 hC hu (by rw [ht0]; exact h1), ht0]) (iteF (by rw [L_0, nI_ltI (by omega) (by omega)]; omega) (iteT (by rw [L_10, nI_ltI (by omega) (by omega)]; exact h1) (iteT (by rw [FabL.p1 hF, FabL.s2 hF]; exact ⟨rfl, (mInb_iff (by omega)).mpr h1⟩) (iteT (by rw [FabL.p1 hF, m_cl (by omega), FabL.tp hF h1, FabL.ts hF h1]) ?_)))))
    simp only [FabL.p1 hF, m_cl (show t < 2 ^ 31 by omega), FabL.tp hF h1, Option.bind_some]
    by_cases z : k = 0
    · refine iteF (by rw [z]; decide) (bindS (j31 c1 ht hu h4 h5) ?_)
      have hm := rmK_le (A := A) (d := v) (dep A v)
      rw [mMin_nI (by omega) (by omega), show min w (min 12 (rmK A v (dep A v))) = opT A k v w 4 by show _ = (if k = 0 then min w (rmK A v (dep A v)) else 0); rw [if_pos z]; omega]
      exact hR _ rfl
    · refine iteT (by rw [L_0, nI_eq (by omega) (by omega)]; exact z) ?_
      rw [show (0 : Int32) = nI (opT A k v w 4) by show nI 0 = nI (if k = 0 then min w (rmK A v (dep A v)) else 0); rw [if_neg z]]
      exact hR _ rfl
  generalize hμ1 : mUI (mUI (mUI μ (tu f t) 1 (nI k)) (tu f t) 2 (nI v)) (tu f t) 3 (nI w) = μ1 at *
  have hF1 := c1.1
  have k6 := RepC.k6 c1.2
  have f2 : FrT f t μ1 (mUI (mUI μ1 (tu f t) 4 (nI (opT A k v w 4))) (tu f t) 5 (nI (aC A 4))) := (FrT_tu (by omega)).trans (FrT_tu (by omega))
  have y1 : ∀ j, 1 ≤ j → j ≤ 5 → mI (mUI (mUI μ1 (tu f t) 4 (nI (opT A k v w 4))) (tu f t) 5 (nI (aC A 4))) (tu f t) j = nI (opT A k v w j) := fun j j1 j2 => by
    have : j = 1 ∨ j = 2 ∨ j = 3 ∨ j = 4 ∨ j = 5 := by omega
    rcases this with e | e | e | e | e <;> subst e
    · simp [mI_UI]; exact x1
    · simp [mI_UI]; exact x2
    · simp [mI_UI]; exact x3
    · simp [mI_UI]
    · simp [mI_UI]; rfl
  have in34 : ∀ {R}, (∀ ρ : mM, ρ = mUI (mUI μ1 (tu f t) 4 (nI (opT A k v w 4))) (tu f t) 5 (nI (aC A 4)) → (if (mS ρ (mP ρ (tu f t) 6)).1 = 7 then (s87 ρ (mP ρ (tu f t) 6)).bind fun q15 => if (mS q15 (tu f t)).1 = 6 then if (mS q15 (mP q15 (tu f t) 7)).1 = 7 then (s87 q15 (mP q15 (tu f t) 7)).bind fun q19 => if (mS q19 f).1 = 1 then (s45 q19 f (tu f t)).bind fun q22 => if ¬ nI k = 0 then (if (mS q22 f).1 = 1 then (s46 q22 f (tu f t)).bind fun q25 => s43_57 f (nI k) (nI v) (nI w) q25 (nI t) (tu f t) else none) else (if (mS q22 f).1 = 1 then (s49 q22 f (nI v)).bind fun q32 => s43_57 f (nI k) (nI v) (nI w) q32 (nI t) (tu f t) else none) else none else none else none else none) = R) → s43_34 f (nI k) (nI v) (nI w) μ1 (nI t) (tu f t) (nI (opT A k v w 4)) (tu f t) = R := fun {R} hR => by
    unfold s43_34
    refine iteT (by rw [FabL.ts hF1 h1]) (bindS (v := mUI μ1 (tu f t) 4 (nI (opT A k v w 4))) rfl (iteT (by rw [mS_UI, FabL.s0 hF1]) (iteT (by rw [mS_UI, FabL.ts hF1 h1]) (bindS (v := mUI (mUI μ1 (tu f t) 4 (nI (opT A k v w 4))) (tu f t) 5 (nI (aC A 4))) ?_ (hR _ rfl)))))
    rw [show mI (mUI μ1 (tu f t) 4 (nI (opT A k v w 4))) f 6 = nI (aC A 4) by rw [mI_UIr (by unfold tu; omega)]; exact k6]
  generalize mUI (mUI μ1 (tu f t) 4 (nI (opT A k v w 4))) (tu f t) 5 (nI (aC A 4)) = μ2 at *
  have c2 : CS μ2 f A := CS_ct c1 h1 cl f2
  obtain ⟨μ3, e3, g3, z3⟩ := j87 (d := 0) c2.1 h1 (by omega)
  have f3 : FrT f t μ2 μ3 := FrT_wy (d := 0) (by omega) (g3.mono (Nat.le_refl _) (by omega))
  have c3 : CS μ3 f A := CS_ct c2 h1 cl f3
  obtain ⟨μ4, e4, g4, z4⟩ := j87 (d := 1) c3.1 h1 (by omega)
  have f4 : FrT f t μ3 μ4 := FrT_wy (d := 1) (by omega) (g4.mono (Nat.le_refl _) (by omega))
  have c4 : CS μ4 f A := CS_ct c3 h1 cl f4
  have tu4 : mI μ4 (tu f t) = mI μ2 (tu f t) := by rw [(g4.2 (tu f t) (by omega)).1, (g3.2 (tu f t) (by omega)).1]
  have z30 : ∀ j, j ≤ 3 → mI μ4 (wy f t 0) j = nI 0 := fun j hj => by rw [(g4.2 (wy f t 0) (by omega)).1]; exact z3 j hj
  obtain ⟨μ5, e5, L5, g5, u5, q5⟩ := j45 hO c4 ht hu (by rw [tu4]; exact y1 1 (by omega) (by omega)) (by rw [tu4]; exact y1 2 (by omega) (by omega)) (z30 1 (by omega))
  have f5 : FrT f t μ4 μ5 := FrT_wy (d := 0) (by omega) g5
  have c5 : CS μ5 f A := CS_ct c4 h1 cl f5
  have tu5 : mI μ5 (tu f t) = mI μ2 (tu f t) := by rw [(g5.2 (tu f t) (by omega)).1, tu4]
  have z51 : ∀ j, j ≤ 3 → mI μ5 (wy f t 1) j = nI 0 := fun j hj => by rw [(g5.2 (wy f t 1) (by omega)).1]; exact z4 j hj
  have fr15 : FrT f t μ μ5 := (((f1.trans f2).trans f3).trans f4).trans f5
  have in2 : ∀ {R}, (if ¬ nI k = 0 then (if (mS μ5 f).1 = 1 then (s46 μ5 f (tu f t)).bind fun q25 => s43_57 f (nI k) (nI v) (nI w) q25 (nI t) (tu f t) else none) else (if (mS μ5 f).1 = 1 then (s49 μ5 f (nI v)).bind fun q32 => s43_57 f (nI k) (nI v) (nI w) q32 (nI t) (tu f t) else none)) = R → s43 μ f (nI k) (nI v) (nI w) = R := fun {R} hR => head (fun ρ hρ => by
    subst hρ
    refine in34 (fun ρ2 hρ2 => ?_)
    subst hρ2
    refine iteT (by rw [FabL.td c2.1 h1, FabL.ws c2.1 h1 (by omega)]) (bindS (by rw [FabL.td c2.1 h1]; exact e3) (iteT (by rw [FabL.ts c3.1 h1]) (iteT (by rw [FabL.tw c3.1 h1, FabL.ws c3.1 h1 (by omega)]) (bindS (by rw [FabL.tw c3.1 h1]; exact e4) (iteT (by rw [FabL.s0 c4.1]) (bindS e5 hR)))))))
  -- the end
  have fin : ∀ {B : Ab} {ρ : mM}, CS ρ f B → B.2 = A.2 → (B = rzA A v (if k = 0 then dep A v else 0)) → mI ρ (tu f t) = mI μ2 (tu f t) → (∀ j, mI ρ (wy f t 0 + j) = mI μ5 (wy f t 0 + j) ∨ 6 ≤ j) → (∀ d, d < 2 → mI ρ (wy f t d) 0 = nI (if d = 1 ∧ k = 0 then 0 else 1) ∧ mI ρ (wy f t d) 2 = nI 0 ∧ mI ρ (wy f t d) 3 = nI 0 ∧ LW ρ f t d (if d = 1 ∧ k = 0 then 0 else dep A v) A k v) → Fr f (f + 181) μ ρ → (∀ a d, a < 10 → d < 2 → ¬ a = t → mI ρ (wy f a d + 5) = mI μ (wy f a d + 5) ∧ mI ρ (wy f a d) = mI μ (wy f a d)) → (∀ a, a < 8 → mI ρ (ro f a + 1) 1 = mI μ (ro f a + 1) 1) → ∃ ν, s43_57 f (nI k) (nI v) (nI w) ρ (nI t) (tu f t) = some (nI t, ν) ∧ CS ν f (opA A t k v w) ∧ SZ (mI ν) f (opA A t k v w) ∧ Fr f (f + 181) μ ν ∧ (BZ (mI μ) f → BZ (mI ν) f) := fun {B ρ} hCρ hB2 hB htu _ hwy hfr hoth hwd => by
    obtain ⟨oU, oN, oP, oO⟩ := opA_w hO
    have hk6 := RepC.k6 hCρ.2
    have hc4 : aC B 4 = aC A 4 := congrArg (fun z => z.2.2.1 4) hB2
    have eI : ins B t (opT A k v w) (opW A k v) = opA A t k v w := by rw [hB]; rfl
    have hcs : CS (mUI (mUI ρ (tu f t) 0 (nI 1)) f 6 (nI (aC B 4 + 1))) f (ins B t (opT A k v w) (opW A k v)) := by
      refine CS_ins hCρ h1 (by have : aT B t 0 = aT A t 0 := congrArg (fun z => z.1 t 0) hB2
                               rw [this]; exact cl) rfl (fun b b1 b2 => by rw [htu]; exact y1 b b1 b2) (fun d hd => ?_) (fun d h hd hh => ?_)
      · obtain ⟨a1, a2, a3, a4⟩ := hwy d hd
        rw [eI, oU, oN]
        refine ⟨a1, a4.1, ?_, ?_⟩
        · rw [a2]; unfold opW
          split
          · rfl
          · rw [if_neg (by omega)]
        · rw [a3]; unfold opW
          split
          · rfl
          · rw [if_neg (by omega)]
      · obtain ⟨a1, a2, a3, a4⟩ := hwy d hd
        rw [eI] at hh ⊢
        rw [oN] at hh
        rw [oP]
        by_cases z : d = 1 ∧ k = 0
        · rw [if_pos z] at hh; omega
        · rw [if_neg z] at hh a4
          obtain ⟨b1, b2, b3, b4, b5⟩ := a4.2 h hh
          unfold opW
          rw [if_neg z, if_pos hh, if_neg z, if_pos hh, if_neg z, if_pos hh]
          exact ⟨b1, b2, b3, b4⟩
    rw [eI] at hcs
    have rwy : ∀ a b j, a < 10 → b < 2 → j < 6 → mI (mUI (mUI ρ (tu f t) 0 (nI 1)) f 6 (nI (aC B 4 + 1))) (wy f a b + j) = mI ρ (wy f a b + j) := fun a b j ha hb hj => by
      have hb2 : b = 0 ∨ b = 1 := by omega
      rw [mI_UIr (by unfold wy; omega), mI_UIr (by unfold wy tu; omega)]
    refine ⟨_, ?_, hcs, ?_, (hfr.trans (Fr_UI _ (by unfold tu; omega) (by unfold tu; omega) _ _)).trans (Fr_UI _ (by omega) (by omega) _ _), fun hb => ⟨fun a ha => ?_, fun a d ha hd => ?_⟩⟩
    · unfold s43_57
      refine iteT (by rw [FabL.ts hCρ.1 h1]) (bindS (v := mUI ρ (tu f t) 0 (nI 1)) rfl (iteT (by rw [mS_UI, FabL.s0 hCρ.1]) ?_))
      rw [show mI (mUI ρ (tu f t) 0 (nI 1)) f 6 = nI (aC B 4) by rw [mI_UIr (by unfold tu; omega)]; exact hk6, show nI (aC B 4) + 1 = nI (aC B 4 + 1) from nI_add _ 1]
      rfl
    · intro a d h ha ho hd hh
      rw [rwy a d 5 ha hd (by omega)]
      by_cases y : a = t
      · subst y
        rw [oN] at hh
        exact ((hwy d hd).2.2.2.2 h hh).2.2.2.2
      · rw [oO a d y] at hh
        rw [(hoth a d ha hd y).1]
        refine hZ a d h ha ?_ hd hh
        have : aT (opA A t k v w) a 0 = aT A a 0 := by
          show (if a = t then _ else aT (rzA A v _) a 0) = _
          rw [if_neg y]; exact congrArg (fun z => z.1 a 0) (rzA_eq _).1
        rw [← this]; exact ho
    · rw [mI_UIr (by unfold ro; omega), mI_UIr (by unfold ro tu; omega), hwd a ha]; exact hb.1 a ha
    · have e : mI (mUI (mUI ρ (tu f t) 0 (nI 1)) f 6 (nI (aC B 4 + 1))) (wy f a d) = mI ρ (wy f a d) := rwy a d 0 ha hd (by omega)
      rw [e]
      by_cases y : a = t
      · subst y
        rw [(hwy d hd).1]
        split
        · exact Or.inl rfl
        · exact Or.inr rfl
      · rw [(hoth a d ha hd y).2]; exact hb.2 a d ha hd
  have frF : ∀ {ρ : mM}, FrT f t μ ρ → Fr f (f + 181) μ ρ := fun {ρ} h => h.1.mono (by unfold tu; omega) (by unfold tu; omega)
  have oth : ∀ {ρ : mM}, FrT f t μ ρ → ∀ a d, a < 10 → d < 2 → ¬ a = t → mI ρ (wy f a d + 5) = mI μ (wy f a d + 5) ∧ mI ρ (wy f a d) = mI μ (wy f a d) := fun {ρ} hf a d ha hd y => ⟨(hf.1.2 _ (by unfold tu wy; omega)).1, (hf.1.2 _ (by unfold tu wy; omega)).1⟩
  have owd : ∀ {ρ : mM}, FrT f t μ ρ → ∀ a, a < 8 → mI ρ (ro f a + 1) 1 = mI μ (ro f a + 1) 1 := fun {ρ} hf a ha => by rw [(hf.1.2 _ (by unfold tu ro; omega)).1]
  by_cases zk : k = 0
  · obtain ⟨μ6, e6, c6, g6, w6⟩ := j49 c5 ht hu h4 h5
    have row6 : ∀ q, f + 51 ≤ q → mI μ6 q = mI μ5 q := fun q hq => (g6.2 q (by omega)).1
    obtain ⟨ν, a1, a2⟩ := fin (B := rzA A v (dep A v)) (ρ := μ6) c6 (rzA_eq _).1 (by rw [if_pos zk]) (by rw [row6 _ (by unfold tu; omega)]; exact tu5) (fun j => by
      by_cases y : 6 ≤ j
      · exact Or.inr y
      · exact Or.inl (row6 _ (by unfold wy; omega))) (fun d hd => by
      have rd : ∀ j, mI μ6 (wy f t d + j) = mI μ5 (wy f t d + j) := fun j => row6 _ (by unfold wy; omega)
      have rd0 := rd 0
      rw [Nat.add_zero] at rd0
      have : d = 0 ∨ d = 1 := by omega
      rcases this with e | e <;> subst e
      · rw [if_neg (by omega), if_neg (by omega), rd0, u5, q5 2 (by omega), q5 3 (by omega), z30 2 (by omega), z30 3 (by omega)]
        refine ⟨rfl, rfl, rfl, by rw [rd0]; exact L5.1, fun h hh => ?_⟩
        rw [rd 1, rd 2, rd 3, rd 4, rd 5]; exact L5.2 h hh
      · rw [if_pos ⟨rfl, zk⟩, if_pos ⟨rfl, zk⟩, rd0, z51 0 (by omega), z51 2 (by omega), z51 3 (by omega)]
        exact ⟨rfl, rfl, rfl, by rw [rd0]; exact z51 1 (by omega), fun h hh => by omega⟩) ((frF fr15).trans (g6.mono (by omega) (by omega))) (fun a d ha hd y => by
      obtain ⟨b1, b2⟩ := oth fr15 a d ha hd y
      exact ⟨by rw [row6 _ (by unfold wy; omega)]; exact b1, by rw [row6 _ (by unfold wy; omega)]; exact b2⟩) (fun a ha => by rw [w6 a ha]; exact owd fr15 a ha)
    exact ⟨ν, in2 (iteF (by rw [zk]; decide) (iteT (by rw [FabL.s0 c5.1]) (bindS e6 a1))), a2⟩
  · obtain ⟨μ6, e6, L6, g6, u6, q6⟩ := j46 hO zk c5 ht hu (by rw [tu5]; exact y1 1 (by omega) (by omega)) (by rw [tu5]; exact y1 2 (by omega) (by omega)) (z51 1 (by omega))
    have f6 : FrT f t μ5 μ6 := FrT_wy (d := 1) (by omega) g6
    have c6 : CS μ6 f A := CS_ct c5 h1 cl f6
    have fr16 := fr15.trans f6
    have rd : ∀ j, j < 6 → mI μ6 (wy f t 0 + j) = mI μ5 (wy f t 0 + j) := fun j hj => (g6.2 _ (by omega)).1
    have rd0 := rd 0 (by omega)
    rw [Nat.add_zero] at rd0
    obtain ⟨ν, a1, a2⟩ := fin (B := A) (ρ := μ6) c6 rfl (by rw [if_neg zk]; rfl) (by rw [(g6.2 (tu f t) (by omega)).1]; exact tu5) (fun j => by
      by_cases y : 6 ≤ j
      · exact Or.inr y
      · exact Or.inl (rd j (by omega))) (fun d hd => by
      have : d = 0 ∨ d = 1 := by omega
      rcases this with e | e <;> subst e
      · rw [if_neg (by omega), if_neg (by omega), rd0, u5, q5 2 (by omega), q5 3 (by omega), z30 2 (by omega), z30 3 (by omega)]
        refine ⟨rfl, rfl, rfl, by rw [rd0]; exact L5.1, fun h hh => ?_⟩
        rw [rd 1 (by omega), rd 2 (by omega), rd 3 (by omega), rd 4 (by omega), rd 5 (by omega)]; exact L5.2 h hh
      · rw [if_neg (by omega), if_neg (by omega), u6, q6 2 (by omega), q6 3 (by omega), z51 2 (by omega), z51 3 (by omega)]
        exact ⟨rfl, rfl, rfl, L6⟩) (frF fr16) (oth fr16) (owd fr16)
    exact ⟨ν, in2 (iteT (by rw [L_0, nI_eq (by omega) (by omega)]; exact zk) (iteT (by rw [FabL.s0 c5.1]) (bindS e6 a1))), a2⟩
end OM
