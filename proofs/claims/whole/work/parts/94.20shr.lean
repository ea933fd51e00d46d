/-! fair shares: the rounds, and the answer -/
section SJ
variable {μ ν : mM} {A : Ab} {r t d i n v : Nat} {L : Nat} {xs : Nat → Int32} {p : S3}
abbrev chP (A : Ab) (p : S3) : Nat × UInt32 := ch A p.1 p.2.2 7
def rd (A : Ab) (p : S3) : S3 := if (chP A p).1 = 0 then p else sN A (chP A p).1 (chP A p).2 p 10
def rdN (A : Ab) (p : S3) : Nat → S3
  | 0 => p
  | k + 1 => rd A (rdN A p k)
theorem chP_le (ht : WFt A) (hu : WFu A) : (chP A p).1 < 8 := by
  have := (ch_ok (l := p.1) (ac := p.2.2) ht hu 7 (by omega)).1
  show (ch A p.1 p.2.2 7).1 < 8
  omega
theorem chP_q (ht : WFt A) (hu : WFu A) (hp : OK3 A p) (h0 : ¬ (chP A p).1 = 0) : (chP A p).2.toNat ≤ 1094713344 ∧ aR A (chP A p).1 0 = 1 ∧ 1 ≤ sW A p.2.2 (chP A p).1 10 ∧ (chP A p).2 = FP.fdiv (p.1 (chP A p).1) (FP.i2f (nI (sW A p.2.2 (chP A p).1 10))) := by
  obtain ⟨c1, c2⟩ := ch_ok (l := p.1) (ac := p.2.2) ht hu 7 (by omega)
  obtain ⟨d1, d2, d3⟩ := c2 h0
  have := sW_le (A := A) (ac := p.2.2) (r := (chP A p).1) (n := 10)
  refine ⟨?_, d1, d2, d3⟩
  show (ch A p.1 p.2.2 7).2.toNat ≤ _
  rw [d3]
  exact q_ok (hp.1 _ (Nat.pos_of_ne_zero h0) (by omega) d1) d2 (by omega)
theorem rd_ok (ht : WFt A) (hu : WFu A) (hp : OK3 A p) : OK3 A (rd A p) := by
  unfold rd
  split
  · exact hp
  · rename_i c
    exact sN_ok ht hu hp (chP_q ht hu hp c).1 10 (by omega)
theorem rdN_ok (ht : WFt A) (hu : WFu A) (hp : OK3 A p) : ∀ k, OK3 A (rdN A p k)
  | 0 => hp
  | k + 1 => rd_ok ht hu (rdN_ok ht hu hp k)
def cA (p : S3) : Nat := sumN (fun t => if p.2.2 t = true then 1 else 0) 10
theorem sW_ex {ac : Nat → Bool} : ∀ n, 1 ≤ sW A ac r n → ∃ t, t < n ∧ ac t = true ∧ us A t r 0 = true
  | 0, h => by
    have : sW A ac r 0 = 0 := rfl
    omega
  | n + 1, h => by
    rw [sW_succ] at h
    by_cases c : ac n = true ∧ us A n r 0 = true
    · exact ⟨n, by omega, c⟩
    · rw [if_neg c] at h
      obtain ⟨t, h1, h2⟩ := sW_ex n (by omega)
      exact ⟨t, by omega, h2⟩
theorem rd_lt (ht : WFt A) (hu : WFu A) (hp : OK3 A p) (h0 : ¬ (chP A p).1 = 0) : cA (rd A p) < cA p := by
  obtain ⟨-, -, c2, -⟩ := chP_q ht hu hp h0
  obtain ⟨t, h1, h2, h3⟩ := sW_ex 10 c2
  unfold rd
  rw [if_neg h0]
  unfold cA
  refine sumN_lt (t := t) h1 (fun i hi => ?_) ?_
  · rw [sN_ac]
    cases p.2.2 i
    · simp
    · split <;> simp
  · rw [sN_ac, h2, h3]; simp [h1]
theorem cA_le : cA p ≤ 10 := by
  have := sumN_le (g := fun t => if p.2.2 t = true then 1 else 0) (h := fun _ => 1) (n := 10) (fun i _ => by split <;> omega)
  rw [sumN_const] at this
  exact this
theorem rdN_cnt (ht : WFt A) (hu : WFu A) (hp : OK3 A p) : ∀ k, (chP A (rdN A p k)).1 = 0 ∨ cA (rdN A p k) + k ≤ 10
  | 0 => by
    have h := cA_le (p := p)
    refine Or.inr ?_
    generalize hx : cA (rdN A p 0) = x
    have : x = cA p := hx.symm
    omega
  | k + 1 => by
    by_cases c : (chP A (rdN A p k)).1 = 0
    · refine Or.inl ?_
      show (chP A (rd A (rdN A p k))).1 = 0
      unfold rd
      rw [if_pos c]; exact c
    · have h1 := rd_lt ht hu (rdN_ok ht hu hp k) c
      rcases rdN_cnt ht hu hp k with h | h
      · exact absurd h c
      · refine Or.inr ?_
        show cA (rd A (rdN A p k)) + (k + 1) ≤ 10
        omega
theorem rdN_end (ht : WFt A) (hu : WFu A) (hp : OK3 A p) : (chP A (rdN A p 10)).1 = 0 := by
  by_cases c : (chP A (rdN A p 10)).1 = 0
  · exact c
  · have h1 := rd_lt ht hu (rdN_ok ht hu hp 10) c
    rcases rdN_cnt ht hu hp 10 with h | h
    · exact h
    · omega
theorem rdN_stop {k : Nat} (h : (chP A (rdN A p k)).1 = 0) : ∀ j, rdN A p (k + j) = rdN A p k
  | 0 => rfl
  | j + 1 => by
    show rd A (rdN A p (k + j)) = _
    rw [rdN_stop h j]
    unfold rd
    rw [if_pos h]
theorem j72r (hK : ClsL (mS μ) (mP μ)) (hC : CS μ 11 A) (ht : WFt A) (hu : WFu A) (hX : SY A 196 μ p) (hp : OK3 A p) : ∃ o ν, mLoop (s72L52 195 11) 1000 (0, μ) = some o ∧ (o = .inl ν ∨ o = .inr ν) ∧ Fr 195 199 μ ν ∧ SY A 196 ν (rdN A p 10) := by
  obtain ⟨o, e, ν, h1, h2, h3⟩ := mLoop_inv0 (b := s72L52 195 11) (fun k st => ∃ ν, st = (nI k, ν) ∧ Fr 195 199 μ ν ∧ SY A 196 ν (rdN A p k)) 10 (fun o => ∃ ν, (o = .inl ν ∨ o = .inr ν) ∧ Fr 195 199 μ ν ∧ SY A 196 ν (rdN A p 10)) (fun k st hk hJ => by
    obtain ⟨ν, rfl, f1, g1⟩ := hJ
    have hK' := hK.fr f1
    have hC' : CS ν 11 A := hC.fr f1 (by omega)
    have ok := rdN_ok ht hu hp k
    have e1 := j73 hK' hC' ht hu g1 ok.2.1 ok.1
    have f2 : Fr 195 199 ν (mUF ν 195 3 (chP A (rdN A p k)).2) := Fr_UF ν (by omega) (by omega) _ _
    have f2' : Fr 195 196 ν (mUF ν 195 3 (chP A (rdN A p k)).2) := Fr_UF ν (by omega) (by omega) _ _
    have g2 : SY A 196 (mUF ν 195 3 (chP A (rdN A p k)).2) (rdN A p k) := SX.fr g1 f2' (by omega)
    have c8 := chP_le (p := rdN A p k) ht hu
    by_cases c : (chP A (rdN A p k)).1 = 0
    · refine Or.inr ⟨.inr (mUF ν 195 3 (chP A (rdN A p k)).2), ?_, _, Or.inr rfl, f1.trans f2, ?_⟩
      · unfold s72L52
        exact iteF (by show ¬ nI 10 ≤ nI k; rw [nI_leI (by omega) (by omega)]; omega) (iteT (by rw [(sh_s hK').1]) (bindS e1 (iteF (fun z => z ((cI_m c8).mpr c)) rfl)))
      · have := rdN_stop c (10 - k)
        rw [show k + (10 - k) = 10 by omega] at this
        rw [this]; exact g2
    · obtain ⟨q1, q2, q3, q4⟩ := chP_q ht hu ok c
      have hK2 := hK'.fr f2
      have hC2 : CS (mUF ν 195 3 (chP A (rdN A p k)).2) 11 A := hC'.fr f2 (by omega)
      obtain ⟨ν3, e3, f3, g3⟩ := j75 hK2 hC2 ht hu g2 ok c8 (by rw [mF_UF, if_pos ⟨rfl, rfl⟩]) q1
      refine Or.inl ⟨(nI (k + 1), ν3), ?_, ν3, rfl, (f1.trans f2).trans (f3.mono (by omega) (by omega)), ?_⟩
      · unfold s72L52
        refine iteF (by show ¬ nI 10 ≤ nI k; rw [nI_leI (by omega) (by omega)]; omega) (iteT (by rw [(sh_s hK').1]) (bindS e1 (iteT (fun z => c ((cI_m c8).mp z)) (iteT (by show (mS (mUF ν 195 3 (chP A (rdN A p k)).2) 195).1 = 5; rw [(sh_s hK2).1]) (bindS (v := ν3) ?_ ?_)))))
        · show s75 _ 195 11 (cI (chP A (rdN A p k)).1) = _
          unfold cI
          rw [if_neg c]; exact e3
        · show some (Sum.inl (nI k + nI 1, _)) = _
          rw [nI_add]
      · show SY A 196 ν3 (rd A (rdN A p k))
        unfold rd
        rw [if_neg c]; exact g3) (fun st hJ => by
    obtain ⟨ν, rfl, f1, g1⟩ := hJ
    refine ⟨.inl ν, ?_, ν, Or.inl rfl, f1, g1⟩
    unfold s72L52
    exact iteT (by show nI 10 ≤ nI 10; rw [nI_leI (by omega) (by omega)]; omega) rfl) (s := (nI 0, μ)) ⟨μ, rfl, Fr.refl _ _ _, hX⟩ (n := 1000) (by omega)
  exact ⟨o, ν, e, h1, h2, h3⟩
theorem k225r (hM : RS μ A) (ht : WFt A) (hu : WFu A) (hX : SY A 215 μ p) (hp : OK3 A p) (hd : d < 2) : ∃ ν, mLoop (s225L66 200 (nI d)) 1000 (nI (chP A p).1, μ) = some (.inl ν) ∧ Fr 215 218 μ ν ∧ SY A 215 ν (rdN A p 10) := by
  obtain ⟨o, e, ν, rfl, h2, h3⟩ := mLoop_inv0 (b := s225L66 200 (nI d)) (fun k st => ∃ ν, st = (nI (chP A (rdN A p k)).1, ν) ∧ Fr 215 218 μ ν ∧ SY A 215 ν (rdN A p k)) 10 (fun o => ∃ ν, o = .inl ν ∧ Fr 215 218 μ ν ∧ SY A 215 ν (rdN A p 10)) (fun k st hk hJ => by
    obtain ⟨ν, rfl, f1, g1⟩ := hJ
    have hM' : RS ν A := hM.fr f1 (by omega)
    have hR := hM'.1
    have ok := rdN_ok ht hu hp k
    have c8 := chP_le (p := rdN A p k) ht hu
    have mc := m_cl (show (chP A (rdN A p k)).1 < 2 ^ 31 by omega)
    by_cases c : (chP A (rdN A p k)).1 = 0
    · refine Or.inr ⟨.inl ν, ?_, ν, rfl, f1, ?_⟩
      · unfold s225L66
        exact iteT (by show nI _ ≤ nI 0; rw [nI_leI (by omega) (by omega)]; omega) rfl
      · have := rdN_stop c (10 - k)
        rw [show k + (10 - k) = 10 by omega] at this
        rw [this]; exact g1
    · obtain ⟨q1, q2, q3, q4⟩ := chP_q ht hu ok c
      obtain ⟨ν3, e3, f3, g3⟩ := k225 hM' ht hu g1 ok c8 hd q1
      have hM3 : RS ν3 A := hM'.fr f3 (by omega)
      have g4 : SY A 215 ν3 (rdN A p (k + 1)) := by
        show SY A 215 ν3 (rd A (rdN A p k))
        unfold rd
        rw [if_neg c]; exact g3
      have ok4 := rdN_ok ht hu hp (k + 1)
      refine Or.inl ⟨(nI (chP A (rdN A p (k + 1))).1, ν3), ?_, ν3, rfl, f1.trans f3, g4⟩
      unfold s225L66
      refine iteF (by show ¬ nI _ ≤ nI 0; rw [nI_leI (by omega) (by omega)]; omega) (iteT (by rw [RefL.s hR]) (iteT (by rw [RefL.r16 hR, RefL.a16 hR]; exact ⟨rfl, (mInb_iff (by omega)).mpr c8⟩) (bindS (k223 hM' ht hu g1 ok.2.1 c8 hd) ?_)))
      have lf : mF ν (mP ν 200 16) (Int32.toNatClampNeg (nI (chP A (rdN A p k)).1)) = (rdN A p k).1 (chP A (rdN A p k)).1 := by
        rw [RefL.r16 hR, mc]; exact g1.1 _ (Nat.pos_of_ne_zero c) c8 q2
      rw [lf, ← q4]
      exact iteT (nn_le q1 (by omega)) (bindS e3 (iteT (by rw [RefL.s hM3.1]) (bindS (k224 hM3 ht hu g4 ok4.2.1 ok4.1 hd) rfl)))) (fun st hJ => by
    obtain ⟨ν, rfl, f1, g1⟩ := hJ
    refine ⟨.inl ν, ?_, ν, rfl, f1, g1⟩
    unfold s225L66
    rw [rdN_end ht hu hp]
    exact iteT (show nI 0 ≤ 0 by decide) rfl) (s := (nI (chP A p).1, μ)) ⟨μ, rfl, Fr.refl _ _ _, hX⟩ (n := 1000) (by omega)
  exact ⟨ν, e, h2, h3⟩
/-- where the rounds begin -/
def l0 (A : Ab) (d r : Nat) : UInt32 := FP.i2f (nI (if d = 0 then cap A r 0 - rsv A r else cap A r d))
def a0 (A : Ab) (t : Nat) : Bool := (aT A t 0 == 1) && !(aT A t 1 == 0)
def p0 (A : Ab) (d : Nat) : S3 := (l0 A d, fun _ => FP.fconst0, a0 A)
theorem p0_ok (hu : WFu A) : OK3 A (p0 A d) := by
  refine ⟨fun r h1 h2 h3 => ?_, fun t htt h => ?_, fun t htt => by show FP.fconst0.toNat ≤ _; rw [c0N]; omega⟩
  · have c0 := cap_le A r 0
    have c1 := cap_le A r d
    show (FP.i2f (nI (if d = 0 then cap A r 0 - rsv A r else cap A r d))).toNat ≤ _
    split
    · exact i2_12 ⟨cap A r 0 - rsv A r, by omega⟩
    · exact i2_12 ⟨cap A r d, by omega⟩
  · change ((aT A t 0 == 1) && !(aT A t 1 == 0)) = true at h
    simpa using h
theorem j53t (hF : FabL (mS μ) (mP μ) 11) (hr : r < 8) (x : Int32) : ∃ v, s53 μ (ro 11 r + 1) x = some v := by
  unfold s53 s53_5 s53_15 s136
  rw [FabL.ls hF hr]
  repeat' split
  all_goals first | exact ⟨_, rfl⟩ | (exfalso; simp_all; done)
end SJ
