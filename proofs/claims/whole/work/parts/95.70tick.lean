/-! the tick: video, and the hops that the clock finds -/
section TH
variable {μ ν ν1 : mM} {A : Ab} {r t d n m k a1 R a b x0 : Nat} {p : PT}
def vd (A : Ab) (r d : Nat) (p : PT) (t : Nat) : PT := if us A t r d = true ∧ aT A t 1 = 0 then (p.1 - amt A p.2.1 r t d (min p.1 (aT A t 4)), sds A p.2.1 r t d (min p.1 (aT A t 4)), p.2.2) else p
def vdN (A : Ab) (r d : Nat) (p : PT) : Nat → PT
  | 0 => p
  | n + 1 => vd A r d (vdN A r d p n) n
theorem vdN_2 : ∀ n, (vdN A r d p n).2.2 = p.2.2
  | 0 => rfl
  | n + 1 => by
    show (vd A r d (vdN A r d p n) n).2.2 = _
    unfold vd
    split
    · exact vdN_2 n
    · exact vdN_2 n
theorem vdN_1 : ∀ n, (vdN A r d p n).1 ≤ p.1
  | 0 => Nat.le_refl _
  | n + 1 => by
    have := vdN_1 n
    show (vd A r d (vdN A r d p n) n).1 ≤ _
    unfold vd
    split
    · show (vdN A r d p n).1 - _ ≤ _
      omega
    · exact this
theorem j6 (hK : ClsL (mS μ) (mP μ)) (hC : CS μ 11 A) (ht : WFt A) (hu : WFu A) (hs : SO A p.2.1) (hX : SCl μ A p.2.1) (hro : mI μ 193 1 = nI p.1) (hp : p.1 ≤ 12) (hH : HP μ A r d) (hd : d < 2) : ∃ ν, s6 μ 193 11 (nI d) = some ν ∧ CS ν 11 A ∧ SCl ν A (vdN A r d p 10).2.1 ∧ mI ν 193 1 = nI (vdN A r d p 10).1 ∧ FrK μ ν ∧ SO A (vdN A r d p 10).2.1 := by
  obtain ⟨ν, e, q⟩ := mLoop_mem (b := s6L2 193 11 (nI d)) (μ := μ) (fun i ν => CS ν 11 A ∧ SCl ν A (vdN A r d p i).2.1 ∧ mI ν 193 1 = nI (vdN A r d p i).1 ∧ FrK μ ν ∧ SO A (vdN A r d p i).2.1) 0 10 (fun i ν hi hJ => by
    obtain ⟨c1, c2, c3, c4, c5⟩ := hJ
    have hF := c1.1
    have hK' := hK.fr c4.1.1
    obtain ⟨k1, k2, k3⟩ := ck_s hK'
    have mc := m_cl (show i < 2 ^ 31 by omega)
    have tp : mP ν (mP ν 11 1) (Int32.toNatClampNeg (nI i)) = tu 11 i := by rw [FabL.p1 hF, mc, FabL.tp hF hi]
    have r1 := vdN_1 (A := A) (r := r) (d := d) (p := p) i
    have hh : mI ν 194 i = if us A i r d = true then nI (hx A i r d) else -nI 1 := by rw [c4.2.1]; exact hH i hi
    have h80 := j80 c1 hu hi
    obtain ⟨P, hP⟩ : ∃ P, P = vdN A r d p i := ⟨_, rfl⟩
    rw [Nat.zero_add, show vdN A r d p (i + 1) = vd A r d (vdN A r d p i) i from rfl]
    rw [← hP] at c2 c3 c5 r1 ⊢
    by_cases ac : ((aT A i 0 == 1) && (aT A i 1 == 0)) = true
    · have ho : aT A i 0 = 1 := by simp at ac; exact ac.1
      have hk : aT A i 1 = 0 := by simp at ac; exact ac.2
      obtain ⟨o1, o2, o3, o4, o5, o6, o7, o8, -⟩ := hu.o hi ho
      have pre : ∀ a ν1, s93 ν (wy 11 i d) (mI ν 194 i) (nI (min P.1 (aT A i 4))) = some (nI a, ν1) → a ≤ P.1 → mS ν1 = mS ν → s6L2 193 11 (nI d) (nI i, ν) = some (.inl (nI (i + 1), mUI ν1 193 1 (nI (P.1 - a)))) := fun a ν1 hx ha hS => by
        unfold s6L2
        refine iteF (by show ¬ nI 10 ≤ nI i; rw [nI_leI (by omega) (by omega)]; omega) (iteT (by rw [FabL.s0 hF]) (iteT (by rw [FabL.p1 hF, FabL.s2 hF]; exact ⟨rfl, (mInb_iff (by omega)).mpr hi⟩) (iteT (by rw [tp, FabL.ts hF hi]) (bindS (v := bI true) (by rw [tp, h80, ac]) (iteF (by decide) (iteT (by rw [k1]) (bindS (v := wy 11 i d) (by rw [tp]; exact j78 hF hi hd) (iteT (by rw [k2, k3]; exact ⟨rfl, (mInb_iff (by omega)).mpr hi⟩) (iteT (by rw [FabL.ws hF hi hd]) (bindS (v := (nI a, ν1)) ?_ (iteT (by rw [hS, k1]) (bindS (v := mUI ν1 193 1 (nI (P.1 - a))) ?_ ?_))))))))))))
        · rw [tp, k2, mc, c3, RepC.t4 c1.2 hi ho, mMin_nI (by omega) (by omega)]; exact hx
        · show some (mUI ν1 193 1 (mI ν 193 1 - nI a)) = _
          rw [c3, nI_sub ha]
        · show some (Sum.inl (nI i + nI 1, _)) = _
          rw [nI_add]
      by_cases u : us A i r d = true
      · rw [if_pos u] at hh
        have e93 := j93 (w := min P.1 (aT A i 4)) c1 ht hu c5 c2 hi hd u (by omega)
        obtain ⟨ν1, hν⟩ : ∃ ν1, ν1 = mUI ν (wy 11 i d + 5) (hx A i r d) (nI (P.2.1 i d (hx A i r d) + amt A P.2.1 r i d (min P.1 (aT A i 4)))) := ⟨_, rfl⟩
        rw [← hν] at e93
        have al := amt_le (A := A) (sd := P.2.1) (r := r) (t := i) (d := d) (w := min P.1 (aT A i 4))
        have body := pre _ ν1 (by rw [hh]; exact e93) (by omega) (by rw [hν]; rfl)
        have hC1 : CS ν1 11 A := by rw [hν]; exact c1.nX hi hd
        have hX1 : SCl ν1 A (sds A P.2.1 r i d (min P.1 (aT A i 4))) := by rw [hν]; exact SCl_s c2 hi hd
        have hf1 : FrK ν ν1 := by rw [hν]; exact FrK_5 hi hd
        have v1 : vd A r d P i = (P.1 - amt A P.2.1 r i d (min P.1 (aT A i 4)), sds A P.2.1 r i d (min P.1 (aT A i 4)), P.2.2) := by unfold vd; rw [if_pos ⟨u, hk⟩]
        rw [v1]
        exact ⟨_, body, CS_193 hC1, SCl_193 hX1, by rw [mI_UI, if_pos ⟨rfl, rfl⟩], (c4.trans hf1).trans FrK_193, SO_s c5 ht hu hi hd u⟩
      · rw [if_neg u] at hh
        have body := pre 0 ν (by rw [hh]; exact j93n hF hi hd) (by omega) rfl
        have v1 : vd A r d P i = P := by unfold vd; rw [if_neg (fun z => u z.1)]
        rw [v1]
        exact ⟨_, body, CS_193 c1, SCl_193 c2, by rw [mI_UI, if_pos ⟨rfl, rfl⟩]; rfl, c4.trans FrK_193, c5⟩
    · have acf : ((aT A i 0 == 1) && (aT A i 1 == 0)) = false := by simpa using ac
      have v1 : vd A r d P i = P := by
        unfold vd
        rw [if_neg]
        rintro ⟨u, hk⟩
        have := (us_iff.mp u).1
        apply ac
        simp [this, hk]
      rw [v1]
      refine ⟨ν, ?_, c1, c2, c3, c4, c5⟩
      unfold s6L2
      refine iteF (by show ¬ nI 10 ≤ nI i; rw [nI_leI (by omega) (by omega)]; omega) (iteT (by rw [FabL.s0 hF]) (iteT (by rw [FabL.p1 hF, FabL.s2 hF]; exact ⟨rfl, (mInb_iff (by omega)).mpr hi⟩) (iteT (by rw [tp, FabL.ts hF hi]) (bindS (v := bI false) (by rw [tp, h80, acf]) (iteT rfl ?_)))))
      show some (Sum.inl (nI i + nI 1, _)) = _
      rw [nI_add]) (fun ν hJ => by
    unfold s6L2
    exact iteT (show nI 10 ≤ nI (0 + 10) by decide) rfl) ⟨hC, hX, hro, FrK.refl _, hs⟩ (n := 1000) (by omega)
  refine ⟨ν, ?_, q⟩
  unfold s6
  exact bindS e rfl
theorem k215v (h : KR μ μ A r d x0 R p) (ht : WFt A) (hu : WFu A) (hR : R ≤ 12) (hr : r < 8) (hd : d < 2) : ∃ ν, mLoop (s215L7 200 (nI r) (nI d)) 1000 (nI p.1, 0, μ) = some (.inl (nI (vdN A r d p 10).1, ν)) ∧ KR μ ν A r d x0 R (vdN A r d p 10) := by
  obtain ⟨o, e, ν, rfl, q⟩ := mLoop_inv0 (b := s215L7 200 (nI r) (nI d)) (fun i st => ∃ ν, st = (nI (vdN A r d p i).1, nI i, ν) ∧ KR μ ν A r d x0 R (vdN A r d p i)) 10 (fun o => ∃ ν, o = .inl (nI (vdN A r d p 10).1, ν) ∧ KR μ ν A r d x0 R (vdN A r d p 10)) (fun i st hi hJ => by
    obtain ⟨ν, rfl, c⟩ := hJ
    rw [show vdN A r d p (i + 1) = vd A r d (vdN A r d p i) i from rfl]
    obtain ⟨P, hP⟩ : ∃ P, P = vdN A r d p i := ⟨_, rfl⟩
    rw [← hP] at c ⊢
    have hRf := c.1.1
    obtain ⟨hM, hX, hv, hj, hf, hs, hp, hl⟩ := c
    refine Or.inl ?_
    have skip : ¬ (us A i r d = true ∧ aT A i 1 = 0) → ∃ s', s215L7_35 200 (nI r) (nI d) ν (nI P.1) (nI i) = some (.inl s') ∧ ∃ ν', s' = (nI (vd A r d P i).1, nI (i + 1), ν') ∧ KR μ ν' A r d x0 R (vd A r d P i) := fun z => by
      have v1 : vd A r d P i = P := by unfold vd; rw [if_neg z]
      rw [v1]
      refine ⟨_, ?_, ν, rfl, hM, hX, hv, hj, hf, hs, hp, hl⟩
      show some (Sum.inl (_, nI i + nI 1, _)) = _
      rw [nI_add]
    by_cases u : us A i r d = true
    · obtain ⟨u1, u2, u3, u4, u5, ho, -⟩ := us_hx ht hu hi hd u
      obtain ⟨o1, o2, o3, o4, o5, o6, o7, o8, -⟩ := hu.o hi ho
      by_cases hk : aT A i 1 = 0
      · have e := k212 (w := min P.1 (aT A i 4)) hM ht hu hs hX hr hi hd u (by omega) hv
        obtain ⟨x, hx'⟩ : ∃ x, x = amt A P.2.1 r i d (min P.1 (aT A i 4)) := ⟨_, rfl⟩
        have al := amt_le (A := A) (sd := P.2.1) (r := r) (t := i) (d := d) (w := min P.1 (aT A i 4))
        obtain ⟨ν1, hν⟩ : ∃ ν1, ν1 = mUI (mUI ν 213 (8 * i + 4 * d + hx A i r d) (nI (P.2.1 i d (hx A i r d) + amt A P.2.1 r i d (min P.1 (aT A i 4))))) 214 (2 * r + d) (nI (x0 + (R - P.1) + amt A P.2.1 r i d (min P.1 (aT A i 4)))) := ⟨_, rfl⟩
        rw [← hν] at e
        have f1 : Fr 213 215 ν ν1 := by rw [hν]; exact (Fr_UI ν (by omega) (by omega) _ _).trans (Fr_UI _ (by omega) (by omega) _ _)
        have v1 : vd A r d P i = (P.1 - amt A P.2.1 r i d (min P.1 (aT A i 4)), sds A P.2.1 r i d (min P.1 (aT A i 4)), P.2.2) := by unfold vd; rw [if_pos ⟨u, hk⟩]
        rw [v1]
        refine ⟨(nI (P.1 - amt A P.2.1 r i d (min P.1 (aT A i 4))), nI (i + 1), ν1), ?_, ν1, rfl, hM.fr f1 (by omega), by rw [hν]; exact SRf_s hX hi hd (by omega), ?_, fun j z => ?_, hf.trans f1, SO_s hs ht hu hi hd u, by show P.1 - _ ≤ R; omega, hl⟩
        · unfold s215L7
          refine iteF (by show ¬ nI 10 ≤ nI i; rw [nI_leI (by omega) (by omega)]; omega) (iteT (by rw [RefL.s hRf]) (bindS (k162 hM ht hu hr hi (by omega)) (iteF (by rw [u]; decide) (bindS (k159 hM hi (k := 1) (by omega)) (iteF (by rw [hk]; decide) (bindS (k159 hM hi (k := 4) (by omega)) (bindS (v := nI (min P.1 (aT A i 4))) (by rw [Nat.min_comm]; exact k145 (by omega) (by omega)) (bindS e ?_))))))))
          show some (Sum.inl (nI P.1 - nI _, nI i + nI 1, _)) = _
          rw [nI_add, nI_sub (by omega)]
        · rw [hν, mI_UI, if_pos ⟨rfl, rfl⟩]; congr 1
          show _ = x0 + (R - (P.1 - amt A P.2.1 r i d (min P.1 (aT A i 4))))
          omega
        · rw [hν, mI_UI, if_neg (fun y => z y.2), mI_UI, if_neg (by omega)]; exact hj j z
      · obtain ⟨s', x1, x2⟩ := skip (fun z => hk z.2)
        refine ⟨s', ?_, x2⟩
        unfold s215L7
        exact iteF (by show ¬ nI 10 ≤ nI i; rw [nI_leI (by omega) (by omega)]; omega) (iteT (by rw [RefL.s hRf]) (bindS (k162 hM ht hu hr hi (by omega)) (iteF (by rw [u]; decide) (bindS (k159 hM hi (k := 1) (by omega)) (iteT (by show ¬ nI _ = nI 0; rw [nI_eq (by omega) (by omega)]; exact hk) x1)))))
    · obtain ⟨s', x1, x2⟩ := skip (fun z => u z.1)
      refine ⟨s', ?_, x2⟩
      unfold s215L7
      exact iteF (by show ¬ nI 10 ≤ nI i; rw [nI_leI (by omega) (by omega)]; omega) (iteT (by rw [RefL.s hRf]) (bindS (k162 hM ht hu hr hi (by omega)) (iteT (by rw [show us A i r d = false by simpa using u]; rfl) x1)))) (fun st hJ => by
    obtain ⟨ν, rfl, c⟩ := hJ
    refine ⟨_, ?_, ν, rfl, c⟩
    unfold s215L7
    exact iteT (show nI 10 ≤ nI 10 by decide) rfl) (s := (nI p.1, 0, μ)) ⟨μ, rfl, h⟩ (n := 1000) (by omega)
  exact ⟨ν, e, q⟩
/-- whether any tunnel uses a link -/
def anyU (A : Ab) (r d : Nat) : Nat → Bool
  | 0 => false
  | n + 1 => anyU A r d n || us A n r d
theorem j5 (hK : ClsL (mS μ) (mP μ)) (hC : CS μ 11 A) (ht : WFt A) (hu : WFu A) (hr : r < 8) (hd : d < 2) : ∃ ν, s5 μ 193 11 (nI r) (nI d) = some (bI (anyU A r d 10), ν) ∧ Fr 194 195 μ ν ∧ HP ν A r d := by
  obtain ⟨o, e, ν, rfl, q1, q2⟩ := mLoop_inv0 (b := s5L4 193 11 (nI r) (nI d)) (fun i st => ∃ ν, st = (bI (anyU A r d i), nI i, ν) ∧ Fr 194 195 μ ν ∧ ∀ t, t < i → mI ν 194 t = if us A t r d = true then nI (hx A t r d) else -nI 1) 10 (fun o => ∃ ν, o = .inl (bI (anyU A r d 10), ν) ∧ Fr 194 195 μ ν ∧ ∀ t, t < 10 → mI ν 194 t = if us A t r d = true then nI (hx A t r d) else -nI 1) (fun i st hi hJ => by
    obtain ⟨ν, rfl, f1, g1⟩ := hJ
    have hK' := hK.fr f1
    have hC' : CS ν 11 A := hC.fr f1 (by omega)
    have hF := hC'.1
    obtain ⟨k1, k2, k3⟩ := ck_s hK'
    have mc := m_cl (show i < 2 ^ 31 by omega)
    have tp : mP ν (mP ν 11 1) (Int32.toNatClampNeg (nI i)) = tu 11 i := by rw [FabL.p1 hF, mc, FabL.tp hF hi]
    have l1 := hu.le1 hi
    obtain ⟨y, hy⟩ : ∃ y, y = (if us A i r d = true then nI (hx A i r d) else -nI 1) := ⟨_, rfl⟩
    have ym : (y = -1) ↔ us A i r d = false := by
      rw [hy]
      by_cases u : us A i r d = true
      · obtain ⟨u1, u2, u3, u4, -⟩ := us_hx ht hu hi hd u
        rw [if_pos u, u]
        constructor
        · intro z
          have : ∀ k : Fin 4, ¬ nI k.val = -1 := by decide
          exact absurd z (this ⟨hx A i r d, by omega⟩)
        · intro z; cases z
      · rw [if_neg u]
        exact ⟨fun _ => by simpa using u, fun _ => by decide⟩
    refine Or.inl ⟨(bI (anyU A r d (i + 1)), nI (i + 1), mUI ν 194 i y), ?_, _, rfl, f1.trans (Fr_UI ν (by omega) (by omega) _ _), fun t htt => ?_⟩
    · have main : s5L4_25 193 11 (nI r) (nI d) ν (bI (anyU A r d i)) (nI i) y (nI i) (mP ν 193 0) = some (.inl (bI (anyU A r d (i + 1)), nI (i + 1), mUI ν 194 i y)) := by
        unfold s5L4_25
        have k2' : mP (mUI ν 194 i y) 193 0 = 194 := k2
        have k1' : mS (mUI ν 194 i y) 193 = (0, 2) := k1
        have k3' : mS (mUI ν 194 i y) 194 = (10, 10) := k3
        have rv : mI (mUI ν 194 i y) 194 i = y := by rw [mI_UI, if_pos ⟨rfl, rfl⟩]
        refine iteT (by rw [k2, k3]; exact ⟨rfl, (mInb_iff (by omega)).mpr hi⟩) (bindS (v := mUI ν 194 i y) (by rw [k2, mc]) ?_)
        show _ = some (Sum.inl (bI (anyU A r d i || us A i r d), _))
        by_cases an : anyU A r d i = true
        · rw [an]
          refine iteT (show ¬ bI true = 0 by decide) ?_
          show some (Sum.inl (nI 1, nI i + nI 1, _)) = _
          rw [nI_add]; rfl
        · rw [show anyU A r d i = false by simpa using an]
          refine iteF (show ¬ ¬ bI false = 0 by decide) (iteT (by rw [k1']) (iteT (by rw [k2', k3']; exact ⟨rfl, (mInb_iff (by omega)).mpr hi⟩) ?_))
          rw [k2', mc, rv]
          by_cases u : us A i r d = true
          · rw [u]
            refine iteF (fun z => by rw [ym.mp z] at u; cases u) ?_
            show some (Sum.inl (nI 1, nI i + nI 1, _)) = _
            rw [nI_add]; rfl
          · have u' : us A i r d = false := by simpa using u
            rw [u']
            refine iteT (ym.mpr u') ?_
            show some (Sum.inl (nI 0, nI i + nI 1, _)) = _
            rw [nI_add]; rfl
      unfold s5L4
      refine iteF (by show ¬ nI 10 ≤ nI i; rw [nI_leI (by omega) (by omega)]; omega) (iteT (by rw [FabL.s0 hF]) (iteT (by rw [FabL.p1 hF, FabL.s2 hF]; exact ⟨rfl, (mInb_iff (by omega)).mpr hi⟩) (iteT (by rw [k1]) (iteT (by rw [tp, FabL.ts hF hi]) ?_))))
      by_cases ho : aT A i 0 = 1
      · refine iteF (by rw [tp, RepC.t0 hC'.2 hi, ho]; decide) (bindS (v := wy 11 i d) (by rw [tp]; exact j78 hF hi hd) (iteT (by rw [FabL.ws hF hi hd]) (bindS (v := y) (by rw [hy]; exact j90 hC' ht hu hi ho hd (by omega)) main)))
      · have e0 : aT A i 0 = 0 := by omega
        have u : us A i r d = false := by unfold us; simp [e0]
        have ye : y = -1 := ym.mpr u
        rw [ye] at main ⊢
        exact iteT (by rw [tp, RepC.t0 hC'.2 hi, e0]; rfl) main
    · rw [mI_UI]
      by_cases z : t = i
      · rw [if_pos ⟨rfl, z⟩, z]; exact hy
      · rw [if_neg (fun w => z w.2)]; exact g1 t (by omega)) (fun st hJ => by
    obtain ⟨ν, rfl, f1, g1⟩ := hJ
    refine ⟨_, ?_, ν, rfl, f1, g1⟩
    unfold s5L4
    exact iteT (show nI 10 ≤ nI 10 by decide) rfl) (s := (0, 0, μ)) ⟨μ, rfl, Fr.refl _ _ _, fun t h => by omega⟩ (n := 1000) (by omega)
  refine ⟨ν, ?_, q1, q2⟩
  unfold s5
  refine bindS e ?_
  show (if _ then _ else _) = _
  exact iteT (by show bI (anyU A r d 10) = 0 ∨ bI (anyU A r d 10) = 1; cases anyU A r d 10 <;> decide) rfl
end TH
