/-! open: the reference; both sides -/
section OR
variable {μ ν : mM} {A B : Ab} {f r k t v w d h q : Nat} {L : Nat} {xs : Nat → Int32}
theorem RepM.ext {I : Nat → Int32} {F : Nat → UInt32} {A' : Ab} (hh : RepM I F A) (h1 : ∀ r k, r < 8 → k < 11 → aR A' r k = aR A r k) (h2 : ∀ r d, r < 8 → d < 2 → aL A' r d = aL A r d) (h3 : ∀ t k, t < 10 → k < 6 → aT A' t k = aT A t k) (h4 : ∀ t d h k, t < 10 → d < 2 → (h < 4 ∧ k < 3 ∨ h = 4 ∧ k < 2) → aW A' t d h k = aW A t d h k) (h5 : ∀ k, k < 5 → aC A' k = aC A k) : RepM I F A' := by
  obtain ⟨q1, q2, q3, q4, q5, q6, q7⟩ := hh
  exact ⟨fun r k hr hk => by rw [h1 r k hr (by omega)]; exact q1 r k hr hk, fun t k a b => by rw [h3 t k a b]; exact q2 t k a b, fun t d k a b c => by rw [h4 t d 4 k a b (Or.inr ⟨rfl, c⟩)]; exact q3 t d k a b c, fun t d h k a b c e => by rw [h4 t d h k a b (Or.inl ⟨c, e⟩)]; exact q4 t d h k a b c e, fun r d hr hd => by rw [h1 r (9 + d) hr (by omega)]; exact q5 r d hr hd, fun k a => by rw [h5 k a]; exact q6 k a, fun r d hr hd => by rw [h2 r d hr hd]; exact q7 r d hr hd⟩
theorem k145x {x : Int32} {m : Nat} : s145 μ x (nI m) = some (mMin (nI m) x) := by
  unfold s145 mMin
  by_cases z : nI m ≤ x
  · rw [if_pos z, if_neg (fun y => by rw [Int32.lt_iff_toInt_lt] at y; rw [Int32.le_iff_toInt_le] at z; omega)]; rfl
  · rw [if_neg z, if_pos (by rw [Int32.lt_iff_toInt_lt]; rw [Int32.le_iff_toInt_le] at z; omega)]; rfl
/-- alike but for a closed tunnel's hops -/
def PB (A : Ab) (t : Nat) (B : Ab) : Prop := B.1 = A.1 ∧ B.2.1 = A.2.1 ∧ B.2.2.2 = A.2.2.2 ∧ ∀ a, ¬ a = t → ∀ d h j, aW B a d h j = aW A a d h j
theorem k199 (hO : OpOK A t k v w) (hPB : PB A t B) (hM : RS μ B) (ht : WFt A) (hu : WFu A) (hd : d < 2) (hdk : ¬ (d = 1 ∧ k = 0)) : ∃ ν B', s199 μ 200 (nI t) (nI k) (nI v) (nI d) = some ν ∧ RS ν B' ∧ PB A t B' ∧ (∀ d' h j, aW B' t d' h j = if d' = d ∧ h < dep A v ∧ j < 2 then opW A k v d h j else aW B t d' h j) ∧ Fr 201 202 μ ν := by
  obtain ⟨v1, d1, d4⟩ := hO.dev ht
  obtain ⟨h1, h2, h3, h4, h5, h6, h7, h8, h9, h10⟩ := id hO
  have cl : ¬ aT A t 0 = 1 := by omega
  have wfB : ∀ {B}, PB A t B → WFt B ∧ WFu B := fun {B} hp => ⟨ht.cg hp.1 (by rw [hp.2.2.1]), wfu_cl hu hp.1 hp.2.1 (congrArg (fun z => z.1 3) hp.2.2.1) hp.2.2.2 cl⟩
  have p3 : ∀ {B}, PB A t B → ∀ x j, aR B x j = aR A x j := fun {B} hp x j => by show B.1 x j = _; rw [hp.1]
  obtain ⟨ν, e, B', m1, m2, m3, m4⟩ := mLoop_mem (b := s199L6 200 (nI t) (nI k) (nI v) (nI d) (nI (dep A v))) (μ := μ) (fun i ρ => ∃ B', RS ρ B' ∧ PB A t B' ∧ (∀ d' h j, aW B' t d' h j = if d' = d ∧ h < i ∧ j < 2 then opW A k v d h j else aW B t d' h j) ∧ Fr 201 202 μ ρ) 0 (dep A v) (fun i ρ hi hJ => by
    obtain ⟨B', m1, m2, m3, m4⟩ := hJ
    obtain ⟨tB, uB⟩ := wfB m2
    have hR := m1.1
    have dB : ∀ x, dep B' x = dep A x := fun x => dep_cg (fun y => p3 m2 y 3)
    have hr : hopR A v d i < 8 ∧ aR A (hopR A v d i) 0 = 1 ∧ 1 ≤ hopR A v d i := by
      unfold hopR
      split
      · obtain ⟨a1, a2, a3⟩ := ht.an h4 h5 (dep A v - 1 - i)
        have h0 : ¬ anc A v (dep A v - 1 - i) = 0 := fun z => by have := (ht.anc0 h4 h5 (dep A v - 1 - i)).mp z; omega
        exact ⟨a1, a2, by omega⟩
      · obtain ⟨a1, a2, a3⟩ := ht.an h4 h5 i
        have h0 : ¬ anc A v i = 0 := fun z => by have := (ht.anc0 h4 h5 i).mp z; omega
        exact ⟨a1, a2, by omega⟩
    obtain ⟨r1, r2, r3⟩ := hr
    have r2' : aR B' (hopR A v d i) 0 = 1 := by rw [p3 m2]; exact r2
    obtain ⟨n1, n2⟩ := hO.hop hd hdk hi
    obtain ⟨c1, c2, c3, c4⟩ := crN_ok n2
    have nl := numN_le (A := A) (r := hopR A v d i) (d := d)
    obtain ⟨nc1, nc2⟩ := num_cg (r := hopR A v d i) (d := d) m2.1 m2.2.1 m2.2.2.2 cl
    have e65 : s165 ρ 200 (nI v) (nI d) (nI i) = some (nI (hopR A v d i)) := by
      rw [k165 m1 tB hd h4 (by rw [p3 m2]; exact h5) (by rw [dB]; exact hi), dB, anc_cg (A := A) (fun y => p3 m2 y 3), anc_cg (A := A) (fun y => p3 m2 y 3)]; rfl
    have e67 : s167 ρ 200 (nI (hopR A v d i)) (nI d) = some (nI (numN A (hopR A v d i) d)) := by
      rw [k167 m1 tB uB r3 r1 r2' hd, nc1, if_neg n1]
    have e66 : s166 ρ 200 (nI (hopR A v d i)) (nI d) = some (free A (hopR A v d i) d) := by
      rw [k166 m1 tB uB r3 r1 r2' hd, nc2]
    have m5 := RS.uW (v := numN A (hopR A v d i) d) (k := 0) m1 h1 hd (show i < 4 by omega) (by omega)
    have m6 := RS.uW (v := crN k (free A (hopR A v d i) d)) (k := 1) m5 h1 hd (show i < 4 by omega) (by omega)
    have f5 : Fr 201 202 ρ (mUI (mUI ρ 201 (172 + 3 * (8 * t + 4 * d + i) + 0) (nI (numN A (hopR A v d i) d))) 201 (172 + 3 * (8 * t + 4 * d + i) + 1) (nI (crN k (free A (hopR A v d i) d)))) := (Fr_UI _ (by omega) (by omega) _ _).trans (Fr_UI _ (by omega) (by omega) _ _)
    have fin : s199L6_35 200 (nI t) (nI k) (nI v) (nI d) (nI (dep A v)) ρ (nI i) (nI (numN A (hopR A v d i) d)) (nI (crN k (free A (hopR A v d i) d))) = some (.inl (nI (i + 1), mUI (mUI ρ 201 (172 + 3 * (8 * t + 4 * d + i) + 0) (nI (numN A (hopR A v d i) d))) 201 (172 + 3 * (8 * t + 4 * d + i) + 1) (nI (crN k (free A (hopR A v d i) d))))) := by
      unfold s199L6_35
      have e63 : ∀ ρ : mM, s163 ρ (nI t) (nI d) (nI i) = some (nI (172 + 3 * (8 * t + 4 * d + i))) := fun ρ => by
        unfold s163
        rw [L_172, L_3, L_8, L_4]
        simp only [nI_mul, nI_add]
      refine iteT (by rw [RefL.s hR]) (bindS (e63 ρ) ?_)
      refine stA (q' := 201) (n := 433) (j := 172 + 3 * (8 * t + 4 * d + i) + 0) (x' := nI (numN A (hopR A v d i) d)) (RefL.r0 hR) (RefL.a0 hR) rfl (by omega) (by omega) rfl ?_
      refine bindS (e63 _) ?_
      refine stA (q' := 201) (n := 433) (j := 172 + 3 * (8 * t + 4 * d + i) + 1) (x' := nI (crN k (free A (hopR A v d i) d))) (RefL.r0 hR) (RefL.a0 hR) (nI_add _ 1) (by omega) (by omega) rfl ?_
      rw [show nI i + 1 = nI (i + 1) from nI_add _ 1]
    generalize mUI (mUI ρ 201 (172 + 3 * (8 * t + 4 * d + i) + 0) (nI (numN A (hopR A v d i) d))) 201 (172 + 3 * (8 * t + 4 * d + i) + 1) (nI (crN k (free A (hopR A v d i) d))) = ρ' at *
    refine ⟨ρ', ?_, _, m6, ⟨m2.1, m2.2.1, m2.2.2.1, fun a y d' h j => ?_⟩, fun d' h j => ?_, m4.trans f5⟩
    · rw [Nat.zero_add]
      unfold s199L6
      refine iteF (by show ¬ nI (dep A v) ≤ nI i; rw [nI_leI (by omega) (by omega)]; omega) (iteT (by rw [RefL.s hR]) (bindS e65 (bindS e67 ?_)))
      by_cases zk : k = 0
      · refine iteF (by rw [zk]; decide) ?_
        rw [show (4 : Int32) = nI (crN k (free A (hopR A v d i) d)) by rw [c4 zk]; rfl]
        exact fin
      · refine iteT (by rw [L_0, nI_eq (by omega) (by omega)]; exact zk) (bindS e66 ?_)
        have lessX : ∀ {m}, m = mostC k → s199L6_34 200 (nI t) (nI k) (nI v) (nI d) (nI (dep A v)) ρ (nI i) (nI (numN A (hopR A v d i) d)) (nI m) (free A (hopR A v d i) d) = some (.inl (nI (i + 1), ρ')) := fun {m} hm => by
          unfold s199L6_34
          refine bindS k145x ?_
          rw [hm, c1]; exact fin
        by_cases zk1 : k = 1
        · refine iteF (by rw [zk1]; decide) (lessX (m := 6) ?_)
          unfold mostC; rw [if_neg zk, if_pos zk1]
        · refine iteT (by rw [L_1, nI_eq (by omega) (by omega)]; exact zk1) (lessX (m := 3) ?_)
          unfold mostC; rw [if_neg zk, if_neg zk1]
    · rw [aW_setW, if_neg (fun z => y z.1), aW_setW, if_neg (fun z => y z.1)]; exact m2.2.2.2 a y d' h j
    · rw [aW_setW, aW_setW]
      by_cases y : d' = d ∧ h = i
      · obtain ⟨y1, y2⟩ := y
        subst y1 y2
        by_cases j1 : j = 1
        · subst j1
          rw [if_pos ⟨rfl, rfl, rfl, rfl⟩, if_pos ⟨rfl, by omega, by omega⟩]
          unfold opW; rw [if_neg hdk, if_pos hi]; rfl
        · rw [if_neg (fun z => j1 z.2.2.2)]
          by_cases j0 : j = 0
          · subst j0
            rw [if_pos ⟨rfl, rfl, rfl, rfl⟩, if_pos ⟨rfl, by omega, by omega⟩]
            unfold opW; rw [if_neg hdk, if_pos hi]; rfl
          · rw [if_neg (fun z => j0 z.2.2.2), m3, if_neg (by omega), if_neg (by omega)]
      · rw [if_neg (by omega), if_neg (by omega), m3]
        by_cases z : d' = d ∧ h < i ∧ j < 2
        · rw [if_pos z, if_pos (by omega)]
        · rw [if_neg z, if_neg (by omega)]) (fun ρ hJ => by
    unfold s199L6
    exact iteT (by show nI (dep A v) ≤ nI (0 + dep A v); rw [nI_leI (by omega) (by omega)]; omega) rfl) ⟨B, hM, hPB, fun d' h j => by rw [if_neg (by omega)], Fr.refl _ _ _⟩ (n := 1000) (by omega)
  refine ⟨ν, B', ?_, m1, m2, m3, m4⟩
  obtain ⟨tB, uB⟩ := wfB hPB
  unfold s199
  refine iteT (by rw [RefL.s hM.1]) (bindS (v := nI (dep A v)) ?_ (bindS e rfl))
  rw [k152 hM tB h4 (by rw [p3 hPB]; exact h5), dep_cg (A := A) (fun y => p3 hPB y 3)]
/-- wakes, of a video tunnel's path -/
theorem k200 (hM : RS μ A) (ht : WFt A) (hv : v < 8) (hp : aR A v 0 = 1) (hv1 : 1 ≤ v) (hk : k ≤ 2) : ∃ ν, s200 μ 200 (nI k) (nI v) = some ν ∧ RS ν (rzA A v (if k = 0 then dep A v else 0)) ∧ Fr 201 202 μ ν := by
  have h4 := ht.dep4 hv hp
  by_cases zk : k = 0
  · rw [if_pos zk]
    obtain ⟨o, e, ν, rfl, g1, g2⟩ := mLoop_inv0 (b := s200L2 200 (nI k)) (fun i s => s.1 = nI (anc A v i) ∧ RS s.2 (rzA A v i) ∧ Fr 201 202 μ s.2) (dep A v) (fun o => ∃ ρ, o = .inl ρ ∧ RS ρ (rzA A v (dep A v)) ∧ Fr 201 202 μ ρ) (fun i s hi hI => by
      obtain ⟨x, ρ⟩ := s
      obtain ⟨i1, g1, g2⟩ := hI
      simp only at i1 g1 g2
      subst i1
      left
      obtain ⟨a1, a2, a3⟩ := ht.an hv hp i
      have h0 : ¬ anc A v i = 0 := fun z => by have := (ht.anc0 hv hp i).mp z; omega
      have ht1 := rzA_wft (v := v) ht i
      have hp1 : aR (rzA A v i) (anc A v i) 0 = 1 := by rw [(rzA_eq i).2 _ 0 (by omega) (by omega)]; exact a2
      obtain ⟨-, -, -, -, -, -, -, -, -, w10, -⟩ := ht1.w (show 1 ≤ anc A v i by omega) a1 hp1
      have e6 := k148 g1 a1 (k := 6) (by omega)
      have nxt : ∀ {ρ' : mM} {B : Ab}, RS ρ' B → aR B (anc A v i) 3 = aR A (anc A v i) 3 → s200L2_34 200 (nI k) ρ' (nI (anc A v i)) = some (.inl (nI (anc A v (i + 1)), ρ')) := fun {ρ' B} hB h3 => by
        unfold s200L2_34
        refine iteT (by rw [RefL.s hB.1]) (bindS (k148 hB a1 (k := 3) (by omega)) ?_)
        rw [h3]; rfl
      have r3 : aR (rzA A v i) (anc A v i) 3 = aR A (anc A v i) 3 := (rzA_eq i).2 _ 3 (by omega) (by omega)
      have hd1 : ¬ nI (anc A v i) ≤ 0 := by rw [L_0, nI_leI (by omega) (by omega)]; omega
      have er : rzA A v (i + 1) = rs1 (rzA A v i) (anc A v i) := rfl
      by_cases e2 : aR (rzA A v i) (anc A v i) 6 = 2
      · have q1 := k149 (v := 3) g1 a1 (k := 6) (by omega)
        have m1 := RS.uR (v := 3) (k := 6) g1 a1 (by omega)
        have q2 := k149 (v := 2) m1 a1 (k := 8) (by omega)
        have m2 := RS.uR (v := 2) (k := 8) m1 a1 (by omega)
        refine ⟨(nI (anc A v (i + 1)), mUI (mUI ρ 201 (9 * anc A v i + 6) (nI 3)) 201 (9 * anc A v i + 8) (nI 2)), ?_, rfl, ?_, (g2.trans (Fr_UI _ (by omega) (by omega) _ _)).trans (Fr_UI _ (by omega) (by omega) _ _)⟩
        · unfold s200L2
          refine iteF hd1 (iteF (by rw [zk]; decide) (iteT (by rw [RefL.s g1.1]) (bindS e6 (iteF (by rw [e2]; decide) (bindS q1 (iteT (by rw [RefL.s m1.1]) (bindS q2 (nxt m2 ?_))))))))
          rw [aR_setR, if_neg (by omega), aR_setR, if_neg (by omega)]; exact r3
        · show RS _ (rzA A v (i + 1))
          rw [er]; unfold rs1; rw [if_pos e2]; exact m2
      · have n2 : ¬ nI (aR (rzA A v i) (anc A v i) 6) = 2 := by rw [L_2, nI_eq (by omega) (by omega)]; exact e2
        by_cases e1 : aR (rzA A v i) (anc A v i) 6 = 1
        · have q1 := k149 (v := 0) g1 a1 (k := 6) (by omega)
          have m1 := RS.uR (v := 0) (k := 6) g1 a1 (by omega)
          refine ⟨(nI (anc A v (i + 1)), mUI ρ 201 (9 * anc A v i + 6) (nI 0)), ?_, rfl, ?_, g2.trans (Fr_UI _ (by omega) (by omega) _ _)⟩
          · unfold s200L2
            refine iteF hd1 (iteF (by rw [zk]; decide) (iteT (by rw [RefL.s g1.1]) (bindS e6 (iteT n2 (bindS e6 (iteF (by rw [e1]; decide) (bindS q1 (nxt m1 ?_))))))))
            rw [aR_setR, if_neg (by omega)]; exact r3
          · show RS _ (rzA A v (i + 1))
            rw [er]; unfold rs1; rw [if_neg e2, if_pos e1]; exact m1
        · refine ⟨(nI (anc A v (i + 1)), ρ), ?_, rfl, ?_, g2⟩
          · unfold s200L2
            exact iteF hd1 (iteF (by rw [zk]; decide) (iteT (by rw [RefL.s g1.1]) (bindS e6 (iteT n2 (bindS e6 (iteT (by rw [L_1, nI_eq (by omega) (by omega)]; exact e1) (nxt g1 r3)))))))
          · show RS _ (rzA A v (i + 1))
            rw [er]; unfold rs1; rw [if_neg e2, if_neg e1]; exact g1) (fun s hI => by
      obtain ⟨x, ρ⟩ := s
      obtain ⟨i1, g1, g2⟩ := hI
      simp only at i1 g1 g2
      subst i1
      have h0 := (ht.anc0 hv hp (dep A v)).mpr (Nat.le_refl _)
      refine ⟨_, ?_, ρ, rfl, g1, g2⟩
      unfold s200L2
      exact iteT (by show nI (anc A v (dep A v)) ≤ 0; rw [h0]; decide) rfl) (s := (nI v, μ)) ⟨rfl, hM, Fr.refl _ _ _⟩ (n := 1000) (by omega)
    refine ⟨ν, ?_, g1, g2⟩
    unfold s200
    exact bindS e rfl
  · rw [if_neg zk]
    refine ⟨μ, ?_, hM, Fr.refl _ _ _⟩
    have e : s200L2 200 (nI k) (nI v, μ) = some (.inr (.inl μ)) := by
      unfold s200L2
      exact iteF (by show ¬ nI v ≤ 0; rw [L_0, nI_leI (by omega) (by omega)]; omega) (iteT (by rw [L_0, nI_eq (by omega) (by omega)]; exact zk) rfl)
    unfold s200
    refine bindS (v := .inl μ) ?_ rfl
    simp only [mLoop, e]
theorem k198 (hO : OpOK A (lcN A) k v w) (hM : RS μ A) (ht : WFt A) (hu : WFu A) : ∃ ν, s198_67 200 (nI k) (nI v) (nI w) μ (nI (rmK A v (dep A v))) = some (nI (lcN A), ν) ∧ RS ν (opA A (lcN A) k v w) ∧ Fr 201 202 μ ν := by
  obtain ⟨v1, d1, d4⟩ := hO.dev ht
  obtain ⟨h1, h2, h3, h4, h5, h6, h7, h8, h9, h10⟩ := id hO
  obtain ⟨l1, l2, l3⟩ := lcN_le (A := A)
  have hm := rmK_le (A := A) (d := v) (dep A v)
  generalize ht0 : lcN A = t at *
  have e69 : mLoop (s198L69 μ 200 (nI k) (nI v) (nI w) (nI (rmK A v (dep A v)))) 1000 (nI 0) = some (.inl (nI t)) := mLoop_seq0 (b := s198L69 μ 200 (nI k) (nI v) (nI w) (nI (rmK A v (dep A v)))) (fun i => nI i) t (fun i hi => by
    have := l3 i hi
    have := hu.le1 (t := i) (by omega)
    unfold s198L69
    refine iteT (by rw [RefL.s hM.1]) (bindS (k159 hM (t := i) (k := 0) (by omega) (by omega)) (iteF (by rw [show aT A i 0 = 1 by omega]; decide) ?_))
    rw [show nI i + 1 = nI (i + 1) from nI_add _ 1]) (by
    unfold s198L69
    exact iteT (by rw [RefL.s hM.1]) (bindS (k159 hM h1 (k := 0) (by omega)) (iteT (by rw [h2]; decide) rfl))) (n := 1000) (by omega)
  obtain ⟨μ1, e1, m1, f1⟩ := k173 (t := t) hM h1
  have pb1 : PB A t (clr A t) := ⟨rfl, rfl, rfl, fun a y d h j => by rw [aW_clr, if_neg y]⟩
  -- both directions
  have dirs : ∃ μ2 B, mLoop (s198L82 200 (nI k) (nI v) (nI w) (nI (rmK A v (dep A v))) (nI t)) 1000 (nI 0, μ1) = some (.inl μ2) ∧ RS μ2 B ∧ PB A t B ∧ (∀ d h j, d < 2 → aW B t d h j = if ¬ (d = 1 ∧ k = 0) ∧ h < dep A v ∧ j < 2 then opW A k v d h j else 0) ∧ Fr 201 202 μ1 μ2 := by
    obtain ⟨μ2, e, B, b1, b2, b3, b4⟩ := mLoop_mem (b := s198L82 200 (nI k) (nI v) (nI w) (nI (rmK A v (dep A v))) (nI t)) (μ := μ1) (fun i ρ => ∃ B, RS ρ B ∧ PB A t B ∧ (∀ d h j, d < 2 → aW B t d h j = if d < i ∧ h < dep A v ∧ j < 2 then opW A k v d h j else 0) ∧ Fr 201 202 μ1 ρ) 0 (if k = 0 then 1 else 2) (fun i ρ hi hJ => by
      obtain ⟨B, b1, b2, b3, b4⟩ := hJ
      have hi2 : i < 2 := by split at hi <;> omega
      have hik : ¬ (i = 1 ∧ k = 0) := by split at hi <;> omega
      obtain ⟨ρ', B', q1, q2, q3, q4, q5⟩ := k199 hO b2 b1 ht hu hi2 hik
      refine ⟨ρ', ?_, B', q2, q3, fun d h j hd => ?_, b4.trans q5⟩
      · rw [Nat.zero_add]
        have fin : s198L82_88 200 (nI k) (nI v) (nI w) (nI (rmK A v (dep A v))) (nI t) ρ (nI i) (nI (if k = 0 then 1 else 2)) (nI i) = some (.inl (nI (i + 1), ρ')) := by
          unfold s198L82_88
          refine iteF (by rw [nI_leI (by split <;> omega) (by omega)]; omega) (iteT (by rw [RefL.s b1.1]) (bindS q1 ?_))
          rw [show nI i + 1 = nI (i + 1) from nI_add _ 1]
        unfold s198L82
        by_cases zk : k = 0
        · rw [if_pos zk] at fin; exact iteF (by rw [zk]; decide) fin
        · rw [if_neg zk] at fin; exact iteT (by rw [L_0, nI_eq (by omega) (by omega)]; exact zk) fin
      · rw [q4, b3 d h j hd]
        by_cases y : d = i ∧ h < dep A v ∧ j < 2
        · rw [if_pos y, if_pos (by omega), y.1]
        · rw [if_neg y]
          by_cases z : d < i ∧ h < dep A v ∧ j < 2
          · rw [if_pos z, if_pos (by omega)]
          · rw [if_neg z, if_neg (by omega)]) (fun ρ hJ => by
      unfold s198L82
      rw [Nat.zero_add]
      by_cases zk : k = 0
      · refine iteF (by rw [zk]; decide) ?_
        unfold s198L82_88
        exact iteT (by rw [if_pos zk]; exact (show (1 : Int32) ≤ nI 1 by decide)) rfl
      · refine iteT (by rw [L_0, nI_eq (by omega) (by omega)]; exact zk) ?_
        unfold s198L82_88
        exact iteT (by rw [if_neg zk]; exact (show (2 : Int32) ≤ nI 2 by decide)) rfl) ⟨_, m1, pb1, fun d h j hd => by rw [if_neg (by omega), aW_clr, if_pos rfl], Fr.refl _ _ _⟩ (n := 1000) (by split <;> omega)
    refine ⟨μ2, B, e, b1, b2, fun d h j hd => ?_, b4⟩
    rw [b3 d h j hd]
    have : (d < if k = 0 then 1 else 2) ↔ ¬ (d = 1 ∧ k = 0) := by split <;> omega
    simp only [this]
  obtain ⟨μ2, B, e2, b1, b2, b3, f2⟩ := dirs
  -- its own numbers
  have a1 := k160 (v := k) b1 h1 (k := 1) (by omega)
  have n1 := RS.uT (v := k) (k := 1) b1 h1 (by omega)
  have g1 : Fr 201 202 μ2 (mUI μ2 201 (72 + 6 * t + 1) (nI k)) := Fr_UI _ (by omega) (by omega) _ _
  generalize mUI μ2 201 (72 + 6 * t + 1) (nI k) = μ3 at *
  have a2 := k160 (v := v) n1 h1 (k := 2) (by omega)
  have n2 := RS.uT (v := v) (k := 2) n1 h1 (by omega)
  have g2 : Fr 201 202 μ3 (mUI μ3 201 (72 + 6 * t + 2) (nI v)) := Fr_UI _ (by omega) (by omega) _ _
  generalize mUI μ3 201 (72 + 6 * t + 2) (nI v) = μ4 at *
  have a3 := k160 (v := w) n2 h1 (k := 3) (by omega)
  have n3 := RS.uT (v := w) (k := 3) n2 h1 (by omega)
  have g3 : Fr 201 202 μ4 (mUI μ4 201 (72 + 6 * t + 3) (nI w)) := Fr_UI _ (by omega) (by omega) _ _
  generalize mUI μ4 201 (72 + 6 * t + 3) (nI w) = μ5 at *
  have a4 := k160 (v := opT A k v w 4) n3 h1 (k := 4) (by omega)
  have n4 := RS.uT (v := opT A k v w 4) (k := 4) n3 h1 (by omega)
  have g4 : Fr 201 202 μ5 (mUI μ5 201 (72 + 6 * t + 4) (nI (opT A k v w 4))) := Fr_UI _ (by omega) (by omega) _ _
  generalize mUI μ5 201 (72 + 6 * t + 4) (nI (opT A k v w 4)) = μ6 at *
  have cB : aC B 4 = aC A 4 := congrArg (fun z => z.1 4) b2.2.2.1
  have c6 := n4.2.2.2.2.2.2.1 4 (by omega)
  simp only [Nat.reduceAdd] at c6
  have c6' : mI μ6 201 432 = nI (aC A 4) := by rw [c6]; show nI (aC B 4) = _; rw [cB]
  have a5 := k160 (v := aC A 4) n4 h1 (k := 5) (by omega)
  have n5 := RS.uT (v := aC A 4) (k := 5) n4 h1 (by omega)
  have g5 : Fr 201 202 μ6 (mUI μ6 201 (72 + 6 * t + 5) (nI (aC A 4))) := Fr_UI _ (by omega) (by omega) _ _
  generalize mUI μ6 201 (72 + 6 * t + 5) (nI (aC A 4)) = μ7 at *
  have a6 := k160 (v := 1) n5 h1 (k := 0) (by omega)
  have n6 := RS.uT (v := 1) (k := 0) n5 h1 (by omega)
  have g6 : Fr 201 202 μ7 (mUI μ7 201 (72 + 6 * t + 0) (nI 1)) := Fr_UI _ (by omega) (by omega) _ _
  generalize mUI μ7 201 (72 + 6 * t + 0) (nI 1) = μ8 at *
  have c8 := n6.2.2.2.2.2.2.1 4 (by omega)
  simp only [Nat.reduceAdd] at c8
  have c8' : mI μ8 201 432 = nI (aC A 4) := by rw [c8]; show nI (aC B 4) = _; rw [cB]
  have n7 := RS.uC (v := aC A 4 + 1) (k := 4) n6 (by omega)
  have g7 : Fr 201 202 μ8 (mUI μ8 201 (428 + 4) (nI (aC A 4 + 1))) := Fr_UI _ (by omega) (by omega) _ _
  have hR8 := n6.1
  have e7 : ∀ {R}, (∀ ρ : mM, ρ = mUI μ8 201 (428 + 4) (nI (aC A 4 + 1)) → (s200 ρ 200 (nI k) (nI v)).bind (fun q60 => some (nI t, q60)) = R) → s198_122 200 (nI k) (nI v) (nI w) μ5 (nI t) (nI (opT A k v w 4)) 4 (nI t) 200 = R := fun {R} hR => by
    unfold s198_122
    refine iteT (by rw [RefL.s n3.1]) (bindS a4 (iteT (by rw [RefL.s n4.1]) (ckA (q' := 201) (n := 433) (j := 432) (RefL.r0 n4.1) (RefL.a0 n4.1) rfl (by omega) (by omega) ?_)))
    refine bindS (by rw [RefL.r0 n4.1, show Int32.toNatClampNeg 432 = 432 from rfl, c6']; exact a5) (iteT (by rw [RefL.s n5.1]) (bindS a6 (iteT (by rw [RefL.s hR8]) ?_)))
    refine stA (q' := 201) (n := 433) (j := 432) (x' := nI (aC A 4 + 1)) (RefL.r0 hR8) (RefL.a0 hR8) rfl (by omega) (by omega) ?_ (hR _ rfl)
    rw [RefL.r0 hR8, show Int32.toNatClampNeg 432 = 432 from rfl, c8']
    exact nI_add _ 1
  generalize mUI μ8 201 (428 + 4) (nI (aC A 4 + 1)) = μ9 at *
  -- as one change
  have n8 : RS μ9 (ins A t (opT A k v w) (opW A k v)) := by
    refine ⟨n7.1, n7.2.ext (fun x j _ _ => ?_) (fun x d _ _ => ?_) (fun a j ha hj => ?_) (fun a d h j ha hd hh => ?_) (fun j hj => ?_)⟩
    · show A.1 x j = B.1 x j; rw [b2.1]
    · show A.2.2.2.2 x d = B.2.2.2.2 x d; rw [b2.2.2.1]
    · show (if a = t then opT A k v w j else aT A a j) = aT (setT (setT (setT (setT (setT (setT B t 1 k) t 2 v) t 3 w) t 4 (opT A k v w 4)) t 5 (aC A 4)) t 0 1) a j
      have tB : aT B a j = aT A a j := by show B.2.1 a j = _; rw [b2.2.1]
      simp only [aT_setT]
      by_cases y : a = t
      · have : j = 0 ∨ j = 1 ∨ j = 2 ∨ j = 3 ∨ j = 4 ∨ j = 5 := by omega
        rcases this with e | e | e | e | e | e <;> subst e <;> simp [y] <;> rfl
      · simp only [y, false_and, if_false]; exact tB.symm
    · show (if a = t then opW A k v d h j else aW A a d h j) = aW B a d h j
      by_cases y : a = t
      · rw [if_pos y, y, b3 d h j hd]
        by_cases z : ¬ (d = 1 ∧ k = 0) ∧ h < dep A v ∧ j < 2
        · rw [if_pos z]
        · rw [if_neg z]
          unfold opW
          by_cases z1 : d = 1 ∧ k = 0
          · rw [if_pos z1]
          · rw [if_neg z1]
            by_cases z2 : h < dep A v
            · rw [if_pos z2, if_neg (by omega), if_neg (by omega)]
            · rw [if_neg z2]
      · rw [if_neg y]; exact (b2.2.2.2 a y d h j).symm
    · show (if j = 4 then aC A 4 + 1 else aC A j) = (if j = 4 then aC A 4 + 1 else aC B j)
      have : aC B j = aC A j := congrArg (fun z => z.1 j) b2.2.2.1
      rw [this]
  have ht1 : WFt (ins A t (opT A k v w) (opW A k v)) := ht.cg rfl rfl
  obtain ⟨μ10, e10, m10, f10⟩ := k200 (k := k) n8 ht1 h4 h5 v1 h3
  have eO : rzA (ins A t (opT A k v w) (opW A k v)) v (if k = 0 then dep (ins A t (opT A k v w) (opW A k v)) v else 0) = opA A t k v w := by
    rw [rzA_ins, dep_cg (A := A) (A' := ins A t (opT A k v w) (opW A k v)) (fun _ => rfl)]; rfl
  rw [eO] at m10
  refine ⟨μ10, ?_, m10, ((((((((((f1.trans f2).trans g1).trans g2).trans g3).trans g4).trans g5).trans g6).trans g7).trans f10))⟩
  unfold s198_67
  refine bindS e69 ?_
  show (if (mS μ 200).1 = 9 then _ else _) = _
  refine iteT (by rw [RefL.s hM.1]) (bindS e1 (bindS e2 ?_))
  show (if (mS μ2 200).1 = 9 then _ else _) = _
  refine iteT (by rw [RefL.s b1.1]) (bindS a1 (iteT (by rw [RefL.s n1.1]) (bindS a2 (iteT (by rw [RefL.s n2.1]) (bindS a3 ?_)))))
  have last : s198_122 200 (nI k) (nI v) (nI w) μ5 (nI t) (nI (opT A k v w 4)) 4 (nI t) 200 = some (nI t, μ10) := e7 (fun ρ hρ => by subst hρ; exact bindS e10 rfl)
  by_cases zk : k = 0
  · refine iteF (by rw [zk]; decide) (bindS (k145 (by omega) (by omega)) ?_)
    rw [show min w (rmK A v (dep A v)) = opT A k v w 4 by show _ = (if k = 0 then min w (rmK A v (dep A v)) else 0); rw [if_pos zk]]
    exact last
  · refine iteT (by rw [L_0, nI_eq (by omega) (by omega)]; exact zk) ?_
    rw [show (0 : Int32) = nI (opT A k v w 4) by show nI 0 = nI (if k = 0 then min w (rmK A v (dep A v)) else 0); rw [if_neg zk]]
    exact last
end OR
