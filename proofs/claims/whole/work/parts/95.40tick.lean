/-! the tick: by turns, the class -/
section TE
variable {μ ν ν1 : mM} {A : Ab} {r t d n m k a1 R a : Nat} {p : PT} {v4 v6 v7 : Int32}
/-- what a pass over a link leaves be -/
def FrK (μ ν : mM) : Prop := FrC μ ν ∧ mI ν 194 = mI μ 194 ∧ ∀ r, r < 8 → mI ν (ro 11 r + 4) = mI μ (ro 11 r + 4)
theorem FrK.refl (μ : mM) : FrK μ μ := ⟨FrC.refl _, rfl, fun _ _ => rfl⟩
theorem FrK.trans {μ1 μ2 : mM} (h1 : FrK μ μ1) (h2 : FrK μ1 μ2) : FrK μ μ2 := ⟨⟨h1.1.1.trans h2.1.1, fun h => h2.1.2 (h1.1.2 h)⟩, h2.2.1.trans h1.2.1, fun r hr => (h2.2.2 r hr).trans (h1.2.2 r hr)⟩
theorem FrK_193 {x : Int32} : FrK μ (mUI μ 193 k x) := ⟨⟨Fr_UI μ (by omega) (by omega) _ _, BZ_UI (fun r hr => by unfold ro; omega) (fun t d _ _ => by unfold wy; omega)⟩, mI_UIr (by omega), fun r hr => mI_UIr (by unfold ro; omega)⟩
theorem FrK_5 {x : Int32} (htt : t < 10) (hd : d < 2) : FrK μ (mUI μ (wy 11 t d + 5) k x) := ⟨⟨Fr_UI μ (by unfold wy; omega) (by unfold wy; omega) _ _, BZ_UI (fun r hr => by unfold ro wy; omega) (fun a b ha hb => by
    have b2 : b = 0 ∨ b = 1 := by omega
    have d2 : d = 0 ∨ d = 1 := by omega
    unfold wy; omega)⟩, mI_UIr (by unfold wy; omega), fun r hr => mI_UIr (by unfold ro wy; omega)⟩
theorem CS_193 {x : Int32} (hC : CS μ 11 A) : CS (mUI μ 193 k x) 11 A := hC.fr (Fr_UI μ (lo := 193) (hi := 194) (by omega) (by omega) _ _) (by omega)
theorem SCl_193 {sd : SD} {x : Int32} (h : SCl μ A sd) : SCl (mUI μ 193 k x) A sd := fun a b c x1 x2 x3 x4 => by
  rw [mI_UIr (by unfold wy; omega)]; exact h a b c x1 x2 x3 x4
theorem sds_0 {sd : SD} {w : Nat} (h : amt A sd r t d w = 0) : sds A sd r t d w = sd := by
  funext a b c
  show (if a = t ∧ b = d ∧ c = hx A t r d then _ else _) = _
  split
  · rename_i e
    rw [h, Nat.add_zero, e.1, e.2.1, e.2.2]
  · rfl
/-- the hops that the clock found -/
def HP (μ : mM) (A : Ab) (r d : Nat) : Prop := ∀ t, t < 10 → mI μ 194 t = if us A t r d = true then nI (hx A t r d) else -nI 1
theorem ck_s (hK : ClsL (mS μ) (mP μ)) : mS μ 193 = (0, 2) ∧ mP μ 193 0 = 194 ∧ mS μ 194 = (10, 10) := ClsL.ck hK
theorem j7c (hK : ClsL (mS ν1) (mP ν1)) (hR : mI ν1 193 1 = nI R) (ha : a ≤ R) (hR2 : R < 2 ^ 31) : s7L8_53 193 11 (nI d) ν1 v4 (nI t) v6 v7 (nI a) = some (.inl (if 0 < a then nI t else v4, nI t, if 0 < a then 0 else v6 + 1, v7 + 1, mUI ν1 193 1 (nI (R - a)))) := by
  unfold s7L8_53
  refine iteT (by rw [(ck_s hK).1]) (bindS (v := mUI ν1 193 1 (nI (R - a))) (by rw [hR, nI_sub ha]) ?_)
  by_cases z : 0 < a
  · have zn : ¬ nI a ≤ 0 := by show ¬ nI a ≤ nI 0; rw [nI_leI (by omega) (by omega)]; omega
    rw [if_pos z, if_pos z]
    refine iteF zn ?_
    unfold s7L8_67
    exact iteF zn rfl
  · have zn : nI a ≤ 0 := by show nI a ≤ nI 0; rw [nI_leI (by omega) (by omega)]; omega
    rw [if_neg z, if_neg z]
    refine iteT zn ?_
    unfold s7L8_67
    exact iteT zn rfl
theorem jvis (hK : ClsL (mS ν) (mP ν)) (hC : CS ν 11 A) (ht : WFt A) (hu : WFu A) (hs : SO A p.2.1) (hX : SCl ν A p.2.1) (hro : mI ν 193 1 = nI p.1) (hp : p.1 ≤ 12) (hH : HP ν A r d) (htt : t < 10) (hd : d < 2) : ∃ ν', s7L8_29 193 11 (nI d) ν v4 v6 v7 (nI t) = some (.inl (if eff A r d p t then nI t else v4, nI t, if eff A r d p t then 0 else v6 + 1, v7 + 1, ν')) ∧ CS ν' 11 A ∧ SCl ν' A (vis A r d p t).2.1 ∧ mI ν' 193 1 = nI (vis A r d p t).1 ∧ FrK ν ν' ∧ SO A (vis A r d p t).2.1 := by
  have hF := hC.1
  have mc := m_cl (show t < 2 ^ 31 by omega)
  have tp : mP ν (mP ν 11 1) (Int32.toNatClampNeg (nI t)) = tu 11 t := by rw [FabL.p1 hF, mc, FabL.tp hF htt]
  obtain ⟨k1, k2, k3⟩ := ck_s hK
  have hh := hH t htt
  -- nothing sent, nothing changed
  have none' : ¬ eff A r d p t → ∀ q, s7L8_29 193 11 (nI d) ν v4 v6 v7 (nI t) = q → s7L8_53 193 11 (nI d) ν v4 (nI t) v6 v7 (nI 0) = q → ∃ ν', s7L8_29 193 11 (nI d) ν v4 v6 v7 (nI t) = some (.inl (if eff A r d p t then nI t else v4, nI t, if eff A r d p t then 0 else v6 + 1, v7 + 1, ν')) ∧ CS ν' 11 A ∧ SCl ν' A (vis A r d p t).2.1 ∧ mI ν' 193 1 = nI (vis A r d p t).1 ∧ FrK ν ν' ∧ SO A (vis A r d p t).2.1 := fun ne q h1 h2 => by
    have e := j7c (d := d) (t := t) (v4 := v4) (v6 := v6) (v7 := v7) (a := 0) hK hro (by omega) (by omega)
    rw [vis_fix ne, if_neg ne, if_neg ne]
    refine ⟨mUI ν 193 1 (nI (p.1 - 0)), ?_, CS_193 hC, SCl_193 hX, by rw [mI_UI, if_pos ⟨rfl, rfl⟩]; rfl, FrK_193, hs⟩
    rw [h1, ← h2, e]; rfl
  have h81 := j81 hC hu htt
  by_cases ac : ((aT A t 0 == 1) && !(aT A t 1 == 0)) = true
  · have ho : aT A t 0 = 1 := by simp at ac; exact ac.1
    have hk : ¬ aT A t 1 = 0 := by simp at ac; exact ac.2
    have wl := wgt_le (A := A) (t := t)
    have pre : ∀ x q, s93 ν (wy 11 t d) (mI ν 194 t) (nI (min p.1 (wgt A t))) = some x → s7L8_53 193 11 (nI d) x.2 v4 (nI t) v6 v7 x.1 = q → s7L8_29 193 11 (nI d) ν v4 v6 v7 (nI t) = q := fun x q hx hq => by
      unfold s7L8_29
      refine iteT (by rw [FabL.s0 hF]) (iteT (by rw [FabL.p1 hF, FabL.s2 hF]; exact ⟨rfl, (mInb_iff (by omega)).mpr htt⟩) (iteT (by rw [tp, FabL.ts hF htt]) (bindS (v := bI true) (by rw [tp, h81, ac]) (iteF (by decide) (bindS (v := wy 11 t d) (by rw [tp]; exact j78 hF htt hd) (iteT (by rw [k1]) (iteT (by rw [k2, k3]; exact ⟨rfl, (mInb_iff (by omega)).mpr htt⟩) (bindS (v := nI (wgt A t)) (by rw [tp]; exact j82 hC hu htt ho) (iteT (by rw [FabL.ws hF htt hd]) (bindS (v := x) ?_ hq))))))))))
      rw [k2, mc, hro, mMin_nI (by omega) (by omega)]; exact hx
    by_cases u : us A t r d = true
    · have hus : usr A r d t = true := by unfold usr; rw [u]; simp [hk]
      rw [if_pos u] at hh
      have e93 := j93 (w := min p.1 (wgt A t)) hC ht hu hs hX htt hd u (by omega)
      obtain ⟨ν1, hν⟩ : ∃ ν1, ν1 = mUI ν (wy 11 t d + 5) (hx A t r d) (nI (p.2.1 t d (hx A t r d) + amt A p.2.1 r t d (min p.1 (wgt A t)))) := ⟨_, rfl⟩
      rw [← hν] at e93
      have hK1 : ClsL (mS ν1) (mP ν1) := by rw [hν]; exact hK
      have hC1 : CS ν1 11 A := by rw [hν]; exact hC.nX htt hd
      have hX1 : SCl ν1 A (sds A p.2.1 r t d (min p.1 (wgt A t))) := by rw [hν]; exact SCl_s hX htt hd
      have hf1 : FrK ν ν1 := by rw [hν]; exact FrK_5 htt hd
      have hr1 : mI ν1 193 1 = nI p.1 := by rw [hν, mI_UIr (by unfold wy; omega)]; exact hro
      have wle := want_le (A := A) (r := r) (d := d) (p := p) (t := t)
      have e := j7c (d := d) (t := t) (v4 := v4) (v6 := v6) (v7 := v7) (a := want A r d p t) hK1 hr1 wle (by omega)
      have full := pre (nI (want A r d p t), ν1) _ (by rw [hh]; exact e93) e
      have so := SO_s (w := min p.1 (wgt A t)) hs ht hu htt hd u
      by_cases z : 0 < want A r d p t
      · have ef : eff A r d p t := ⟨hus, z⟩
        rw [if_pos z, if_pos z] at full
        refine ⟨mUI ν1 193 1 (nI (p.1 - want A r d p t)), ?_, CS_193 hC1, ?_, ?_, hf1.trans FrK_193, ?_⟩
        · rw [if_pos ef, if_pos ef]; exact full
        · unfold vis; rw [if_pos ef]; exact SCl_193 hX1
        · unfold vis; rw [if_pos ef, mI_UI, if_pos ⟨rfl, rfl⟩]
        · unfold vis; rw [if_pos ef]; exact so
      · have ne : ¬ eff A r d p t := fun y => z y.2
        have z0 : amt A p.2.1 r t d (min p.1 (wgt A t)) = 0 := by
          have : want A r d p t = amt A p.2.1 r t d (min p.1 (wgt A t)) := rfl
          omega
        have w0 : want A r d p t = 0 := z0
        rw [if_neg z, if_neg z, w0] at full
        rw [sds_0 z0] at hX1
        rw [vis_fix ne, if_neg ne, if_neg ne]
        exact ⟨_, full, CS_193 hC1, SCl_193 hX1, by rw [mI_UI, if_pos ⟨rfl, rfl⟩]; rfl, hf1.trans FrK_193, hs⟩
    · have ne : ¬ eff A r d p t := by
        rintro ⟨y, -⟩
        unfold usr at y
        rw [show us A t r d = false by simpa using u] at y
        cases y
      rw [if_neg u] at hh
      exact none' ne _ (pre (0, ν) _ (by rw [hh]; exact j93n hF htt hd) rfl) rfl
  · have acf : ((aT A t 0 == 1) && !(aT A t 1 == 0)) = false := by simpa using ac
    have ne : ¬ eff A r d p t := by
      rintro ⟨y, -⟩
      unfold usr us at y
      apply ac
      simp at y ⊢
      exact ⟨y.1.1.1, y.2⟩
    refine none' ne _ ?_ rfl
    unfold s7L8_29
    exact iteT (by rw [FabL.s0 hF]) (iteT (by rw [FabL.p1 hF, FabL.s2 hF]; exact ⟨rfl, (mInb_iff (by omega)).mpr htt⟩) (iteT (by rw [tp, FabL.ts hF htt]) (bindS (v := bI false) (by rw [tp, h81, acf]) (iteT rfl rfl))))
/-- one more than where the turns stand -/
def pnt (a1 n : Nat) : Nat := if n = 0 then a1 else (a1 + (n - 1)) % 10 + 1
theorem pnt_le (h : a1 ≤ 10) : pnt a1 n ≤ 10 ∧ pnt a1 n % 10 = (a1 + n) % 10 := by
  unfold pnt
  split
  · rename_i e; subst e; exact ⟨h, rfl⟩
  · omega
theorem nI_pt : ∀ b : Fin 11, ((nI b.val - 1 < 0) ↔ b.val = 0) ∧ nI b.val - 1 + 1 = nI b.val ∧ ((nI b.val - 1 + 1 < (10 : Int32)) ↔ b.val < 10) := by decide
theorem pnt_s : pnt a1 (n + 1) = (a1 + n) % 10 + 1 := by unfold pnt; rw [if_neg (by omega)]; rfl
theorem j7 (hK : ClsL (mS μ) (mP μ)) (hC : CS μ 11 A) (ht : WFt A) (hu : WFu A) (hs : SO A p.2.1) (hX : SCl μ A p.2.1) (hro : mI μ 193 1 = nI p.1) (hp : p.1 ≤ 12) (hH : HP μ A r d) (hd : d < 2) (ha1 : a1 ≤ 10) (hl : p.2.2 = a1) : ∃ ν m, s7 μ 193 11 (nI d) (nI a1 - 1) = some (nI (trn A r d p a1 m).2.2 - 1, ν) ∧ Fix A r d (trn A r d p a1 m) ∧ CS ν 11 A ∧ SCl ν A (trn A r d p a1 m).2.1 ∧ mI ν 193 1 = nI (trn A r d p a1 m).1 ∧ FrK μ ν ∧ SO A (trn A r d p a1 m).2.1 ∧ (trn A r d p a1 m).1 ≤ p.1 ∧ (trn A r d p a1 m).2.2 ≤ 10 := by
  obtain ⟨o, e, ν, m, rfl, q⟩ := mLoop_inv0 (b := s7L8 193 11 (nI d)) (fun n st => ∃ ν q, st = (nI (trn A r d p a1 n).2.2 - 1, nI (pnt a1 n) - 1, nI q, nI n, ν) ∧ q ≤ 10 ∧ q ≤ n ∧ n + 10 * (trn A r d p a1 n).1 ≤ 10 * p.1 + q ∧ (∀ j, n - q ≤ j → j < n → ¬ eff A r d (trn A r d p a1 n) ((a1 + j) % 10)) ∧ CS ν 11 A ∧ SCl ν A (trn A r d p a1 n).2.1 ∧ mI ν 193 1 = nI (trn A r d p a1 n).1 ∧ FrK μ ν ∧ SO A (trn A r d p a1 n).2.1 ∧ (trn A r d p a1 n).1 ≤ p.1 ∧ (trn A r d p a1 n).2.2 ≤ 10) 130 (fun o => ∃ ν m, o = .inl (nI (trn A r d p a1 m).2.2 - 1, ν) ∧ Fix A r d (trn A r d p a1 m) ∧ CS ν 11 A ∧ SCl ν A (trn A r d p a1 m).2.1 ∧ mI ν 193 1 = nI (trn A r d p a1 m).1 ∧ FrK μ ν ∧ SO A (trn A r d p a1 m).2.1 ∧ (trn A r d p a1 m).1 ≤ p.1 ∧ (trn A r d p a1 m).2.2 ≤ 10) (fun n st hn hJ => by
    obtain ⟨ν, q, rfl, q1, q2, q3, q4, c1, c2, c3, c4, c5, c6, c7⟩ := hJ
    have hK' := hK.fr c4.1.1
    obtain ⟨k1, k2, k3⟩ := ck_s hK'
    by_cases z : (trn A r d p a1 n).1 = 0
    · refine Or.inr ⟨_, ?_, ν, n, rfl, fix_room z, c1, c2, c3, c4, c5, c6, c7⟩
      unfold s7L8
      exact iteF (by show ¬ nI 130 ≤ nI n; rw [nI_leI (by omega) (by omega)]; omega) (iteT (by rw [k1]) (iteT (by rw [c3, z]; decide) rfl))
    · by_cases y : q = 10
      · refine Or.inr ⟨_, ?_, ν, n, rfl, fix_ten (a1 := a1) (n := n - 10) (fun j x1 x2 => q4 j (by omega) (by omega)), c1, c2, c3, c4, c5, c6, c7⟩
        unfold s7L8
        exact iteF (by show ¬ nI 130 ≤ nI n; rw [nI_leI (by omega) (by omega)]; omega) (iteT (by rw [k1]) (iteF (by rw [c3]; show ¬ nI _ ≤ nI 0; rw [nI_leI (by omega) (by omega)]; omega) (iteT (by show nI 10 ≤ nI q; rw [y]; decide) rfl)))
      · obtain ⟨b1, b2⟩ := pnt_le (n := n) ha1
        have hH' : HP ν A r d := fun t htt => by rw [c4.2.1]; exact hH t htt
        obtain ⟨ν', e', d1, d2, d3, d4, d5⟩ := jvis (t := (a1 + n) % 10) (p := trn A r d p a1 n) (v4 := nI (trn A r d p a1 n).2.2 - 1) (v6 := nI q) (v7 := nI n) hK' c1 ht hu c5 c2 c3 (by omega) hH' (Nat.mod_lt _ (by omega)) hd
        have nx : s7L8 193 11 (nI d) (nI (trn A r d p a1 n).2.2 - 1, nI (pnt a1 n) - 1, nI q, nI n, ν) = s7L8_29 193 11 (nI d) ν (nI (trn A r d p a1 n).2.2 - 1) (nI q) (nI n) (nI ((a1 + n) % 10)) := by
          obtain ⟨i1, i2, i3⟩ := nI_pt ⟨pnt a1 n, by omega⟩
          unfold s7L8
          refine iteF (by show ¬ nI 130 ≤ nI n; rw [nI_leI (by omega) (by omega)]; omega) (iteT (by rw [k1]) (iteF (by rw [c3]; show ¬ nI _ ≤ nI 0; rw [nI_leI (by omega) (by omega)]; omega) (iteF (by show ¬ nI 10 ≤ nI q; rw [nI_leI (by omega) (by omega)]; omega) ?_)))
          by_cases x0 : pnt a1 n = 0
          · refine iteT (i1.mpr x0) ?_
            rw [show (a1 + n) % 10 = 0 by omega]; rfl
          · refine iteF (fun w => x0 (i1.mp w)) ?_
            by_cases x1 : pnt a1 n < 10
            · refine iteT (i3.mpr x1) ?_
              show s7L8_29 193 11 (nI d) ν _ _ _ (nI (pnt a1 n) - 1 + 1) = _
              rw [i2, show (a1 + n) % 10 = pnt a1 n by omega]
            · refine iteF (fun w => x1 (i3.mp w)) ?_
              rw [show (a1 + n) % 10 = 0 by omega]; rfl
        have n1 : nI n + 1 = nI (n + 1) := nI_add n 1
        have pn : nI ((a1 + n) % 10) = nI (pnt a1 (n + 1)) - 1 := by
          rw [pnt_s]
          have := (nI_m1 ⟨(a1 + n) % 10 - 2, by omega⟩)
          have h10 : ∀ b : Fin 10, nI b.val = nI (b.val + 1) - 1 := by decide
          exact h10 ⟨(a1 + n) % 10, Nat.mod_lt _ (by omega)⟩
        by_cases ef : eff A r d (trn A r d p a1 n) ((a1 + n) % 10)
        · rw [if_pos ef, if_pos ef, n1] at e'
          have v1 : trn A r d p a1 (n + 1) = ((trn A r d p a1 n).1 - want A r d (trn A r d p a1 n) ((a1 + n) % 10), sds A (trn A r d p a1 n).2.1 r ((a1 + n) % 10) d (min (trn A r d p a1 n).1 (wgt A ((a1 + n) % 10))), (a1 + n) % 10 + 1) := by
            show vis A r d _ _ = _
            unfold vis
            rw [if_pos ef]
          have wle := want_le (A := A) (r := r) (d := d) (p := trn A r d p a1 n) (t := (a1 + n) % 10)
          have wpos := ef.2
          refine Or.inl ⟨(nI ((a1 + n) % 10), nI ((a1 + n) % 10), 0, nI (n + 1), ν'), by rw [nx]; exact e', ν', 0, ?_, by omega, by omega, ?_, fun j x1 x2 => by omega, d1, d2, d3, c4.trans d4, d5, ?_, ?_⟩
          · rw [v1]
            show _ = (nI ((a1 + n) % 10 + 1) - 1, _)
            rw [pn, pnt_s]; rfl
          · rw [v1]
            show n + 1 + 10 * ((trn A r d p a1 n).1 - want A r d (trn A r d p a1 n) ((a1 + n) % 10)) ≤ _
            omega
          · rw [v1]
            show (trn A r d p a1 n).1 - want A r d (trn A r d p a1 n) ((a1 + n) % 10) ≤ _
            omega
          · rw [v1]
            show (a1 + n) % 10 + 1 ≤ 10
            omega
        · rw [if_neg ef, if_neg ef, n1] at e'
          have v1 : trn A r d p a1 (n + 1) = trn A r d p a1 n := vis_fix ef
          have v2 : vis A r d (trn A r d p a1 n) ((a1 + n) % 10) = trn A r d p a1 n := vis_fix ef
          rw [v2] at d2 d3 d5
          refine Or.inl ⟨(nI (trn A r d p a1 n).2.2 - 1, nI ((a1 + n) % 10), nI q + 1, nI (n + 1), ν'), by rw [nx]; exact e', ν', q + 1, ?_, by omega, by omega, ?_, fun j x1 x2 => ?_, d1, ?_, ?_, c4.trans d4, ?_, ?_, ?_⟩
          · rw [v1, pn, show nI q + 1 = nI (q + 1) from nI_add q 1]
          · rw [v1]; omega
          · rw [v1]
            by_cases w : j = n
            · rw [w]; exact ef
            · exact q4 j (by omega) (by omega)
          · rw [v1]; exact d2
          · rw [v1]; exact d3
          · rw [v1]; exact d5
          · rw [v1]; exact c6
          · rw [v1]; exact c7) (fun st hJ => by
    obtain ⟨ν, q, rfl, q1, q2, q3, q4, c1, c2, c3, c4, c5, c6, c7⟩ := hJ
    refine ⟨_, ?_, ν, 130, rfl, fix_room (by omega), c1, c2, c3, c4, c5, c6, c7⟩
    unfold s7L8
    exact iteT (show nI 130 ≤ nI 130 by decide) rfl) (s := (nI a1 - 1, nI a1 - 1, 0, 0, μ)) ⟨μ, 0, by show _ = (nI p.2.2 - 1, _); rw [hl]; rfl, by omega, by omega, by show 0 + 10 * p.1 ≤ _; omega, fun j x1 x2 => by omega, hC, hX, hro, FrK.refl _, hs, Nat.le_refl _, by show p.2.2 ≤ 10; omega⟩ (n := 1000) (by omega)
  refine ⟨ν, m, ?_, q⟩
  unfold s7
  exact bindS e rfl
end TE
