/-! the tick: a pass over a link -/
section TI
variable {μ ν ν1 : mM} {A : Ab} {r t d n m k a1 R a b x0 v : Nat} {p : PT} {sd : SD}
def psF (A : Ab) (sd : SD) (r d : Nat) : PT := trn A r d (vdN A r d (cap A r d, sd, aR A r (9 + d)) 10) (aR A r (9 + d)) 130
/-- the state, what was sent, and what went over the link -/
def ps (A : Ab) (sd : SD) (r d : Nat) : Ab × SD × Nat := if aR A r 6 < 2 then (setR A r (9 + d) (psF A sd r d).2.2, (psF A sd r d).2.1, cap A r d - (psF A sd r d).1) else (A, sd, 0)
theorem us_setR (hk : ¬ k = 3) {q : Nat} : us (setR A r k v) t q d = us A t q d := us_cg (A := A) (A' := setR A r k v) (fun q => by rw [aR_setR, if_neg (fun z => hk z.2.symm)]) rfl rfl rfl
theorem wN_setR (hk : ¬ k = 3) : wN (setR A r k v) t d = wN A t d := wN_cg (A := A) (A' := setR A r k v) (fun q => by rw [aR_setR, if_neg (fun z => hk z.2.symm)]) rfl rfl
theorem SCl_R (hk : ¬ k = 3) (h : SCl μ A sd) : SCl μ (setR A r k v) sd := fun a b c x1 x2 x3 x4 => h a b c x1 x2 x3 (by rw [wN_setR hk] at x4; exact x4)
theorem SO_R (hk : ¬ k = 3) (h : SO A sd) : SO (setR A r k v) sd := ⟨fun a b c x1 x2 x3 x4 => h.1 a b c x1 x2 x3 (by rw [wN_setR hk] at x4; exact x4), fun a b c x1 x2 x3 x4 => h.2 a b c x1 x2 x3 (fun z => x4 ⟨z.1, by rw [wN_setR hk]; exact z.2⟩)⟩
theorem SCl_ro {x : Int32} {j : Nat} (hr : r < 8) (hj : j < 6) (h : SCl μ A sd) : SCl (mUI μ (ro 11 r + j) k x) A sd := fun a b c x1 x2 x3 x4 => by
  rw [mI_UIr (by unfold ro wy; omega)]; exact h a b c x1 x2 x3 x4
theorem SCl_fr {lo hi : Nat} (h : SCl μ A sd) (hf : Fr lo hi μ ν) (hh : 192 ≤ lo) : SCl ν A sd := fun a b c x1 x2 x3 x4 => by
  rw [(hf.2 _ (by unfold wy; omega)).1]; exact h a b c x1 x2 x3 x4
theorem j55 (hC : CS μ 11 A) (h1 : 1 ≤ r) (hr : r < 8) (hp : aR A r 0 = 1) (h6 : aR A r 6 ≤ 3) : s55 μ (ro 11 r + 1) = some (bI (decide (aR A r 6 < 2))) := by
  have hF := hC.1
  have g2 := RepC.g2 hC.2 h1 hr hp
  unfold s55
  refine iteT (by rw [FabL.ls hF hr]) ?_
  rw [g2]
  have : aR A r 6 = 0 ∨ aR A r 6 = 1 ∨ aR A r 6 = 2 ∨ aR A r 6 = 3 := by omega
  rcases this with e | e | e | e <;> rw [e] <;> rfl
theorem anyU_f : ∀ n, anyU A r d n = false → ∀ t, t < n → us A t r d = false
  | 0, _, t, h => by omega
  | n + 1, h, t, ht => by
    change (anyU A r d n || us A n r d) = false at h
    rw [Bool.or_eq_false_iff] at h
    by_cases e : t = n
    · rw [e]; exact h.2
    · exact anyU_f n h.1 t (by omega)
theorem psF_none (h : ∀ t, t < 10 → us A t r d = false) : psF A sd r d = (cap A r d, sd, aR A r (9 + d)) := by
  have v : ∀ n, n ≤ 10 → vdN A r d (cap A r d, sd, aR A r (9 + d)) n = (cap A r d, sd, aR A r (9 + d)) := by
    intro n
    induction n with
    | zero => intro _; rfl
    | succ n ih =>
      intro hn
      show vd A r d (vdN A r d _ n) n = _
      rw [ih (by omega)]
      unfold vd
      rw [if_neg]
      rintro ⟨z, -⟩
      rw [h n (by omega)] at z
      cases z
  have w : ∀ n p a, trn A r d p a n = p := by
    intro n
    induction n with
    | zero => intro p a; rfl
    | succ n ih =>
      intro p a
      show vis A r d (trn A r d p a n) _ = _
      rw [ih, vis_fix]
      rintro ⟨z, -⟩
      unfold usr at z
      rw [h _ (Nat.mod_lt _ (by omega))] at z
      cases z
  unfold psF
  rw [v 10 (by omega), w]
theorem j4d (hK : ClsL (mS μ) (mP μ)) (hC : CS μ 11 A) (ht : WFt A) (hu : WFu A) (hs : SO A sd) (hX : SCl μ A sd) (h1 : 1 ≤ r) (hr : r < 8) (hp : aR A r 0 = 1) (hd : d < 2) : ∃ ν, s4L7 193 11 (nI r) (ro 11 r + 1) (nI d, μ) = some (.inl (nI (d + 1), ν)) ∧ CS ν 11 (ps A sd r d).1 ∧ SCl ν (ps A sd r d).1 (ps A sd r d).2.1 ∧ SO (ps A sd r d).1 (ps A sd r d).2.1 ∧ mI ν (ro 11 r + 4) d = nI (ps A sd r d).2.2 ∧ (ps A sd r d).2.2 ≤ cap A r d ∧ (∀ a b, a < 8 → ¬ (a = r ∧ b = d) → mI ν (ro 11 a + 4) b = mI μ (ro 11 a + 4) b) ∧ FrC μ ν ∧ ((ps A sd r d).1 = setR A r (9 + d) (psF A sd r d).2.2 ∧ (psF A sd r d).2.2 ≤ 10 ∨ (ps A sd r d).1 = A) := by
  have hF := hC.1
  have hw := WN.of ht hu
  obtain ⟨-, -, -, -, -, -, -, -, w5, w6, w9, w10, w8, wl⟩ := ht.w h1 hr hp
  have hcap := cap_le A r d
  have ha1 : aR A r (9 + d) ≤ 10 := by
    have : d = 0 ∨ d = 1 := by omega
    rcases this with e | e <;> subst e
    · exact w9
    · exact w10
  have mc := m_cl (show d < 2 ^ 31 by omega)
  have nx : nI d + 1 = nI (d + 1) := nI_add d 1
  -- nothing was sent yet
  obtain ⟨ν0, hν0⟩ : ∃ ν0, ν0 = mUI μ (ro 11 r + 4) d 0 := ⟨_, rfl⟩
  have c0 : CS ν0 11 A := by rw [hν0]; exact hC.nS hr
  have x0 : SCl ν0 A sd := by rw [hν0]; exact SCl_ro (j := 4) hr (by omega) hX
  have f0 : FrC μ ν0 := by rw [hν0]; exact (FrF_ro (j := 4) hr (by omega) (Or.inl (by omega))).C
  have hK0 := hK.fr f0.1
  have v0 : mI ν0 (ro 11 r + 4) d = nI 0 := by rw [hν0, mI_UI, if_pos ⟨rfl, rfl⟩]; rfl
  have o0 : ∀ a b, a < 8 → ¬ (a = r ∧ b = d) → mI ν0 (ro 11 a + 4) b = mI μ (ro 11 a + 4) b := fun a b ha z => by
    rw [hν0, mI_UI, if_neg (fun y => z ⟨by have := y.1; unfold ro at this; omega, y.2⟩)]
  have e55 := j55 c0 h1 hr hp w6
  have pre : ∀ q, ((s55 ν0 (ro 11 r + 1)).bind fun q8 => if q8 = 0 then (s4L7_55 193 11 (nI r) (ro 11 r + 1) ν0 (nI d)) else (if (mS ν0 193).1 = 0 then (s5 ν0 193 11 (nI r) (nI d)).bind fun q11 => if q11.1 = 0 then (s4L7_55 193 11 (nI r) (ro 11 r + 1) q11.2 (nI d)) else (if (mS q11.2 (ro 11 r + 1)).1 = 2 then (s53 q11.2 (ro 11 r + 1) (nI d)).bind fun q14 => if (mS q11.2 193).1 = 0 then (some (mUI q11.2 193 1 q14)).bind fun μ17 => (s6 μ17 193 11 (nI d)).bind fun q18 => if (mS q18 (ro 11 r + 1)).1 = 2 then if (mS q18 (mP q18 (ro 11 r + 1) 6)).1 = 10 ∧ mInb (nI d) (mS q18 (mP q18 (ro 11 r + 1) 6)).2 then if (mS q18 193).1 = 0 then (s7 q18 193 11 (nI d) (mI q18 (mP q18 (ro 11 r + 1) 6) (Int32.toNatClampNeg (nI d)))).bind fun q23 => if (mS q23.2 (mP q18 (ro 11 r + 1) 6)).1 = 10 ∧ mInb (nI d) (mS q23.2 (mP q18 (ro 11 r + 1) 6)).2 then (some (mUI q23.2 (mP q18 (ro 11 r + 1) 6) (Int32.toNatClampNeg (nI d)) q23.1)).bind fun μ26 => if (mS μ26 (ro 11 r + 1)).1 = 2 then (s53 μ26 (ro 11 r + 1) (nI d)).bind fun q28 => if (mS μ26 193).1 = 0 then if (mS μ26 (mP μ26 (ro 11 r + 1) 7)).1 = 10 ∧ mInb (nI d) (mS μ26 (mP μ26 (ro 11 r + 1) 7)).2 then (some (mUI μ26 (mP μ26 (ro 11 r + 1) 7) (Int32.toNatClampNeg (nI d)) (q28 - (mI μ26 193 1)))).bind fun μ32 => s4L7_55 193 11 (nI r) (ro 11 r + 1) μ32 (nI d) else none else none else none else none else none else none else none else none else none) else none)) = q → s4L7 193 11 (nI r) (ro 11 r + 1) (nI d, μ) = q := fun q hq => by
    unfold s4L7
    refine iteF (by show ¬ nI 2 ≤ nI d; rw [nI_leI (by omega) (by omega)]; omega) (iteT (by rw [FabL.ls hF hr]) (iteT (by rw [FabL.l7 hF hr, FabL.q4 hF hr]; exact ⟨rfl, (mInb_iff (by omega)).mpr hd⟩) (bindS (v := ν0) (by rw [FabL.l7 hF hr, mc, hν0]) hq)))
  by_cases aw : aR A r 6 < 2
  · rw [decide_eq_true aw] at e55
    have pse : ps A sd r d = (setR A r (9 + d) (psF A sd r d).2.2, (psF A sd r d).2.1, cap A r d - (psF A sd r d).1) := by unfold ps; rw [if_pos aw]
    obtain ⟨ν1, e5, f5, hp5⟩ := j5 (r := r) (d := d) hK0 c0 ht hu hr hd
    have c5 : CS ν1 11 A := c0.fr f5 (by omega)
    have hK5 := hK0.fr f5
    have x5 : SCl ν1 A sd := SCl_fr x0 f5 (by omega)
    have f5' : FrC ν0 ν1 := ⟨f5.mono (by omega) (by omega), fun hb => hb.fr f5 (by omega)⟩
    have r5 : ∀ a, a < 8 → mI ν1 (ro 11 a + 4) = mI ν0 (ro 11 a + 4) := fun a ha => (f5.2 _ (by unfold ro; omega)).1
    by_cases an : anyU A r d 10 = true
    · rw [an] at e5
      have e53 := j53 c5 ht h1 hr hp (d := d) (by omega)
      obtain ⟨ν2, hν2⟩ : ∃ ν2, ν2 = mUI ν1 193 1 (nI (cap A r d)) := ⟨_, rfl⟩
      have c2 : CS ν2 11 A := by rw [hν2]; exact CS_193 c5
      have x2 : SCl ν2 A sd := by rw [hν2]; exact SCl_193 x5
      have f2 : FrK ν1 ν2 := by rw [hν2]; exact FrK_193
      have hK2 := hK5.fr f2.1.1
      have hp2 : HP ν2 A r d := fun t htt => by rw [f2.2.1]; exact hp5 t htt
      obtain ⟨ν3, e6, c3, x3, ro3, f3, s3'⟩ := j6 (p := (cap A r d, sd, aR A r (9 + d))) hK2 c2 ht hu hs x2 (by rw [hν2, mI_UI, if_pos ⟨rfl, rfl⟩]) (by show cap A r d ≤ 12; omega) hp2 hd
      have hK3 := hK2.fr f3.1.1
      have hp3 : HP ν3 A r d := fun t htt => by rw [f3.2.1]; exact hp2 t htt
      obtain ⟨V, hV⟩ : ∃ V, V = vdN A r d (cap A r d, sd, aR A r (9 + d)) 10 := ⟨_, rfl⟩
      have V1 : V.1 ≤ cap A r d := by rw [hV]; exact vdN_1 10
      have V2 : V.2.2 = aR A r (9 + d) := by rw [hV]; exact vdN_2 10
      rw [← hV] at x3 ro3 s3'
      obtain ⟨ν4, m, e7, fx, c4, x4, ro4, f4, s4', l1, l2⟩ := j7 (p := V) (a1 := aR A r (9 + d)) hK3 c3 ht hu s3' x3 ro3 (by omega) hp3 hd ha1 V2
      have un : trn A r d V (aR A r (9 + d)) m = psF A sd r d := by
        unfold psF
        rw [← hV]
        exact trn_uniq fx (trn_end ha1 (by omega))
      rw [un] at e7 x4 ro4 s4' l1 l2
      have hK4 := hK3.fr f4.1.1
      have c6 := CS.uP (v := (psF A sd r d).2.2) c4 hw hr hd
      obtain ⟨ν5, hν5⟩ : ∃ ν5, ν5 = mUI ν4 (ro 11 r + 3) d (nI (psF A sd r d).2.2 - 1) := ⟨_, rfl⟩
      rw [← hν5] at c6
      have f6 : FrC ν4 ν5 := by rw [hν5]; exact (FrF_ro (j := 3) hr (by omega) (Or.inl (by omega))).C
      have hK6 := hK4.fr f6.1
      have hF6 := c6.1
      have tw := @cap_cg
      have cp6 : s53 ν5 (ro 11 r + 1) (nI d) = some (nI (cap A r d)) := by
        have ht6 : WFt (setR A r (9 + d) (psF A sd r d).2.2) := ht.cgR (fun q k hk => by rw [aR_setR, if_neg (by omega)]) (fun q q1 q8 hq => by
          obtain ⟨-, -, -, -, -, -, -, -, y5, y6, y9, y10, y8, yl⟩ := ht.w q1 q8 hq
          refine ⟨by rw [aR_setR, if_neg (by omega)]; exact y5, by rw [aR_setR, if_neg (by omega)]; exact y6, ?_, ?_, by rw [aR_setR, if_neg (by omega), aR_setR, if_neg (by omega)]; exact y8, yl⟩
          · rw [aR_setR]; split <;> omega
          · rw [aR_setR]; split <;> omega)
        have := j53 c6 ht6 h1 hr (by rw [aR_setR, if_neg (by omega)]; exact hp) (d := d) (by omega)
        rw [cap_cg (A := A) (A' := setR A r (9 + d) (psF A sd r d).2.2) (fun q => by rw [aR_setR, if_neg (by omega)]) (fun q => by rw [aR_setR, if_neg (by omega)]) (by rw [aR_setR, if_neg (by omega)])] at this
        exact this
      have ro5 : mI ν5 193 1 = nI (psF A sd r d).1 := by rw [hν5, mI_UIr (by unfold ro; omega)]; exact ro4
      have lt3 : mI ν3 (ro 11 r + 3) d = nI (aR A r (9 + d)) - 1 := RepC.lt c3.2 h1 hr hp hd
      obtain ⟨ν6, hν6⟩ : ∃ ν6, ν6 = mUI ν5 (ro 11 r + 4) d (nI (cap A r d - (psF A sd r d).1)) := ⟨_, rfl⟩
      have f7 : FrC ν5 ν6 := by rw [hν6]; exact (FrF_ro (j := 4) hr (by omega) (Or.inl (by omega))).C
      have fall : FrC μ ν6 := ⟨((((((f0.1.trans f5'.1).trans f2.1.1).trans f3.1.1).trans f4.1.1).trans f6.1).trans f7.1), fun hb => f7.2 (f6.2 (f4.1.2 (f3.1.2 (f2.1.2 (f5'.2 (f0.2 hb))))))⟩
      rw [pse]
      refine ⟨ν6, pre _ ?_, by rw [hν6]; exact c6.nS hr, ?_, SO_R (by omega) s4', by rw [hν6, mI_UI, if_pos ⟨rfl, rfl⟩], by show cap A r d - _ ≤ _; omega, fun a b ha z => ?_, fall, Or.inl ⟨rfl, l2⟩⟩
      · refine bindS e55 (iteF (by decide) (iteT (by rw [(ck_s hK0).1]) (bindS e5 (iteF (show ¬ bI true = 0 by decide) (iteT (by rw [FabL.ls c5.1 hr]) (bindS e53 (iteT (by rw [(ck_s hK5).1]) (bindS (v := ν2) (by rw [hν2]) (bindS e6 (iteT (by rw [FabL.ls c3.1 hr]) (iteT (by rw [FabL.l6 c3.1 hr, FabL.q3 c3.1 hr]; exact ⟨rfl, (mInb_iff (by omega)).mpr hd⟩) (iteT (by rw [(ck_s hK3).1]) (bindS (v := (nI (psF A sd r d).2.2 - 1, ν4)) (by rw [FabL.l6 c3.1 hr, mc, lt3]; exact e7) (iteT (by rw [FabL.l6 c3.1 hr]; show (mS ν4 _).1 = 10 ∧ mInb (nI d) (mS ν4 _).2; rw [FabL.q3 c4.1 hr]; exact ⟨rfl, (mInb_iff (by omega)).mpr hd⟩) (bindS (v := ν5) (by rw [FabL.l6 c3.1 hr, mc, hν5]) (iteT (by rw [FabL.ls hF6 hr]) (bindS cp6 (iteT (by rw [(ck_s hK6).1]) (iteT (by rw [FabL.l7 hF6 hr, FabL.q4 hF6 hr]; exact ⟨rfl, (mInb_iff (by omega)).mpr hd⟩) (bindS (v := ν6) (by rw [FabL.l7 hF6 hr, mc, ro5, nI_sub (by omega), hν6]) ?_))))))))))))))))))))
        show some (Sum.inl (nI d + 1, _)) = _
        rw [nx]
      · show SCl ν6 (setR A r (9 + d) _) _
        refine SCl_R (by omega) ?_
        rw [hν6]
        refine SCl_ro (j := 4) hr (by omega) ?_
        rw [hν5]
        exact SCl_ro (j := 3) hr (by omega) x4
      · rw [hν6, mI_UI, if_neg (fun y => z ⟨by have := y.1; unfold ro at this; omega, y.2⟩), hν5, mI_UIr (by unfold ro; omega), f4.2.2 a ha, f3.2.2 a ha, f2.2.2 a ha, r5 a ha]
        exact o0 a b ha z
    · have anf : anyU A r d 10 = false := by simpa using an
      rw [anf] at e5
      have F0 := psF_none (sd := sd) (anyU_f 10 anf)
      rw [pse, F0]
      have same : setR A r (9 + d) (aR A r (9 + d)) = A := setR_same rfl
      refine ⟨ν1, pre _ ?_, by show CS ν1 11 (setR A r (9 + d) (aR A r (9 + d))); rw [same]; exact c5, by show SCl ν1 (setR A r (9 + d) (aR A r (9 + d))) sd; rw [same]; exact x5, by show SO (setR A r (9 + d) (aR A r (9 + d))) sd; rw [same]; exact hs, ?_, by show cap A r d - cap A r d ≤ _; omega, fun a b ha z => by rw [r5 a ha]; exact o0 a b ha z, ⟨f0.1.trans f5'.1, fun hb => f5'.2 (f0.2 hb)⟩, Or.inr same⟩
      · refine bindS e55 (iteF (by decide) (iteT (by rw [(ck_s hK0).1]) (bindS e5 (iteT rfl ?_))))
        show some (Sum.inl (nI d + 1, _)) = _
        rw [nx]
      · rw [r5 r hr, v0]
        show _ = nI (cap A r d - cap A r d)
        rw [Nat.sub_self]
  · rw [decide_eq_false aw] at e55
    have pse : ps A sd r d = (A, sd, 0) := by unfold ps; rw [if_neg aw]
    rw [pse]
    refine ⟨ν0, pre _ ?_, c0, x0, hs, v0, by show 0 ≤ _; omega, o0, f0, Or.inr rfl⟩
    refine bindS e55 (iteT rfl ?_)
    show some (Sum.inl (nI d + 1, _)) = _
    rw [nx]
end TI
