/-! the tick: the passes over all links -/
section TJ
variable {μ ν ν1 : mM} {A : Ab} {r t d n m k a1 R a b x0 v : Nat} {p : PT} {sd : SD}
theorem nI_412 : (412 : Int32) + 2 * nI r + nI d = nI (412 + 2 * r + d) := by
  show nI 412 + nI 2 * nI r + nI d = _
  rw [nI_mul, nI_add, nI_add]
theorem k215 (hM : RS μ A) (ht : WFt A) (hu : WFu A) (hs : SO A sd) (hX : SRf μ sd) (hv : mI μ 214 (2 * r + d) = nI 0) (h1 : 1 ≤ r) (hr : r < 8) (hp : aR A r 0 = 1) (hd : d < 2) : ∃ ν, s215 μ 200 (nI r) (nI d) = some ν ∧ RS ν (setR A r (9 + d) (psF A sd r d).2.2) ∧ SRf ν (psF A sd r d).2.1 ∧ mI ν 214 (2 * r + d) = nI (cap A r d - (psF A sd r d).1) ∧ (∀ j, ¬ j = 2 * r + d → mI ν 214 j = mI μ 214 j) ∧ FrR μ ν ∧ SO A (psF A sd r d).2.1 ∧ (psF A sd r d).2.2 ≤ 10 := by
  have hR := hM.1
  obtain ⟨-, -, -, -, -, -, -, -, w5, w6, w9, w10, w8, wl⟩ := ht.w h1 hr hp
  have hcap := cap_le A r d
  have ha1 : aR A r (9 + d) ≤ 10 := by
    have : d = 0 ∨ d = 1 := by omega
    rcases this with e | e <;> subst e
    · exact w9
    · exact w10
  have K0 : KR μ μ A r d 0 (cap A r d) (cap A r d, sd, aR A r (9 + d)) := ⟨hM, hX, by rw [hv]; show _ = nI (0 + (cap A r d - cap A r d)); rw [Nat.sub_self], fun j _ => rfl, Fr.refl _ _ _, hs, Nat.le_refl _, ha1⟩
  obtain ⟨ν1, e1, K1⟩ := k215v K0 ht hu (by omega) hr hd
  obtain ⟨V, hV⟩ : ∃ V, V = vdN A r d (cap A r d, sd, aR A r (9 + d)) 10 := ⟨_, rfl⟩
  have V2 : V.2.2 = aR A r (9 + d) := by rw [hV]; exact vdN_2 10
  rw [← hV] at e1 K1
  obtain ⟨m1, m2, m3, m4, m5, m6, m7, m8⟩ := K1
  have K2 : KR ν1 ν1 A r d 0 (cap A r d) V := ⟨m1, m2, m3, fun j _ => rfl, Fr.refl _ _ _, m6, m7, m8⟩
  obtain ⟨ν2, e2, n1, n2, n3, n4, n5, n6, n7, n8⟩ := k215t K2 ht hu (by omega) hr hd ha1 V2
  have eF : trn A r d V (aR A r (9 + d)) 130 = psF A sd r d := by unfold psF; rw [← hV]
  rw [eF] at e2 n2 n3 n6 n7 n8
  have mc := m_cl (show 412 + 2 * r + d < 2 ^ 31 by omega)
  have q5 := m1.2.2.2.2.2.1 r d hr hd
  have f12 : Fr 213 215 μ ν2 := m5.trans n5
  have f3 : Fr 201 202 ν2 (mUI ν2 201 (412 + 2 * r + d) (nI (psF A sd r d).2.2)) := Fr_UI ν2 (by omega) (by omega) _ _
  refine ⟨mUI ν2 201 (412 + 2 * r + d) (nI (psF A sd r d).2.2), ?_, RS.uP n1 hr hd, ?_, ?_, fun j z => ?_, (f12.R (by omega)).trans (f3.R (by omega)), n6, n8⟩
  · unfold s215
    refine iteT (by rw [RefL.s hR]) (bindS (k156 hM ht h1 hr hp (by omega)) (bindS e1 (iteT (by rw [RefL.s m1.1]) (bindS (k214 m1 ht hu hr hd) (iteT (by rw [RefL.r0 m1.1, RefL.a0 m1.1, nI_412]; exact ⟨rfl, (mInb_iff (by omega)).mpr (by omega)⟩) (bindS (v := .inl (nI (psF A sd r d).2.2 - 1, ν2)) ?_ ?_))))))
    · rw [nI_412, mc, RefL.r0 m1.1, q5]; exact e2
    · show s215_106 200 (nI r) (nI d) ν2 (nI (psF A sd r d).2.2 - 1) = _
      unfold s215_106
      have e : nI (psF A sd r d).2.2 - 1 + 1 = nI (psF A sd r d).2.2 := (nI_pt ⟨(psF A sd r d).2.2, by omega⟩).2.1
      exact iteT (by rw [RefL.s n1.1]) (iteT (by rw [RefL.r0 n1.1, RefL.a0 n1.1, nI_412]; exact ⟨rfl, (mInb_iff (by omega)).mpr (by omega)⟩) (bindS (v := mUI ν2 201 (412 + 2 * r + d) (nI (psF A sd r d).2.2)) (by rw [RefL.r0 n1.1, nI_412, mc, e]) rfl))
  · intro a b c x1 x2 x3
    rw [mI_UIr (by omega)]; exact n2 a b c x1 x2 x3
  · rw [mI_UIr (by omega), n3, Nat.zero_add]
  · rw [mI_UIr (by omega), n4 j z, m4 j z]
theorem ps_wf (ht : WFt A) (hu : WFu A) (h : (ps A sd r d).1 = setR A r (9 + d) v ∧ v ≤ 10 ∨ (ps A sd r d).1 = A) (hd : d < 2) : WFt (ps A sd r d).1 ∧ WFu (ps A sd r d).1 := by
  rcases h with ⟨e, hv⟩ | e
  · rw [e]
    refine ⟨ht.cgR (fun q k hk => by rw [aR_setR, if_neg (by omega)]) (fun q q1 q8 hq => ?_), wfu_cgR hu (fun q k hk => by rw [aR_setR, if_neg (by omega)]) rfl rfl hu.2.1 (fun q q1 q8 hq => ?_)⟩
    · obtain ⟨-, -, -, -, -, -, -, -, y5, y6, y9, y10, y8, yl⟩ := ht.w q1 q8 hq
      refine ⟨by rw [aR_setR, if_neg (by omega)]; exact y5, by rw [aR_setR, if_neg (by omega)]; exact y6, ?_, ?_, by rw [aR_setR, if_neg (by omega), aR_setR, if_neg (by omega)]; exact y8, yl⟩
      · rw [aR_setR]; split <;> omega
      · rw [aR_setR]; split <;> omega
    · rw [cap_cg (A := A) (A' := setR A r (9 + d) v) (fun q => by rw [aR_setR, if_neg (by omega)]) (fun q => by rw [aR_setR, if_neg (by omega)]) (by rw [aR_setR, if_neg (by omega)])]; exact hu.rsv q1 q8 hq
  · rw [e]; exact ⟨ht, hu⟩
theorem ps_R (h : k < 9) : aR (ps A sd r d).1 a k = aR A a k := by
  unfold ps
  split
  · show aR (setR A r (9 + d) _) a k = _
    rw [aR_setR, if_neg (by omega)]
  · rfl
theorem ps_2 : (ps A sd r d).1.2 = A.2 := by
  unfold ps
  split <;> rfl
/-- a state of the passes: the fabric, what was sent, what went over the links -/
abbrev P3 : Type := Ab × SD × (Nat → Nat → Nat)
def up2n (o : Nat → Nat → Nat) (r x y : Nat) : Nat → Nat → Nat := fun a b => if a = r then (if b = 0 then x else y) else o a b
def p2 (s : P3) (r : Nat) : P3 := if aR s.1 r 0 = 1 then ((ps (ps s.1 s.2.1 r 0).1 (ps s.1 s.2.1 r 0).2.1 r 1).1, (ps (ps s.1 s.2.1 r 0).1 (ps s.1 s.2.1 r 0).2.1 r 1).2.1, up2n s.2.2 r (ps s.1 s.2.1 r 0).2.2 (ps (ps s.1 s.2.1 r 0).1 (ps s.1 s.2.1 r 0).2.1 r 1).2.2) else s
def p2N (s : P3) : Nat → P3
  | 0 => s
  | n + 1 => p2 (p2N s n) (n + 1)
theorem p2_R {s : P3} (h : k < 9) : aR (p2 s r).1 a k = aR s.1 a k := by
  unfold p2
  split
  · show aR (ps _ _ r 1).1 a k = _
    rw [ps_R h, ps_R h]
  · rfl
theorem p2N_R {s : P3} (h : k < 9) : ∀ n, aR (p2N s n).1 a k = aR s.1 a k
  | 0 => rfl
  | n + 1 => by
    show aR (p2 (p2N s n) (n + 1)).1 a k = _
    rw [p2_R h, p2N_R h n]
theorem p2N_2 {s : P3} : ∀ n, (p2N s n).1.2 = s.1.2
  | 0 => rfl
  | n + 1 => by
    show (p2 (p2N s n) (n + 1)).1.2 = _
    unfold p2
    split
    · show (ps _ _ _ 1).1.2 = _
      rw [ps_2, ps_2, p2N_2 n]
    · exact p2N_2 n
theorem p2N_o {s : P3} (ha : n < a) : (p2N s n).2.2 a b = s.2.2 a b := by
  induction n with
  | zero => rfl
  | succ n ih =>
    show (p2 (p2N s n) (n + 1)).2.2 a b = _
    unfold p2
    split
    · show (if a = n + 1 then _ else _) = _
      rw [if_neg (by omega)]; exact ih (by omega)
    · exact ih (by omega)
/-- the class stands so after the passes below n + 1 -/
def KC (μ0 μ : mM) (s : P3) (n : Nat) : Prop := CS μ 11 s.1 ∧ SCl μ s.1 s.2.1 ∧ SO s.1 s.2.1 ∧ WFt s.1 ∧ WFu s.1 ∧ FrC μ0 μ ∧ ∀ a b, 1 ≤ a → a ≤ n → a < 8 → b < 2 → aR s.1 a 0 = 1 → mI μ (ro 11 a + 4) b = nI (s.2.2 a b) ∧ s.2.2 a b ≤ cap s.1 a b
theorem cap_ps : cap (ps A sd r d).1 a b = cap A a b := cap_cg (A := A) (A' := (ps A sd r d).1) (fun q => ps_R (by omega)) (fun q => ps_R (by omega)) (ps_R (by omega))
theorem j4 {μ0 : mM} {s : P3} (hK : ClsL (mS μ0) (mP μ0)) (h : KC μ0 μ s n) (hr : r = n + 1) (h8 : r < 8) (hp : aR s.1 r 0 = 1) : ∃ ν, s4 μ 193 11 (nI r) = some ν ∧ KC μ0 ν (p2 s r) r := by
  obtain ⟨hC, hX, hs, ht, hu, hf, ho⟩ := h
  have hF := hC.1
  have hK1 := hK.fr hf.1
  obtain ⟨ν1, e1, c1, x1, s1', v1, l1, o1, f1, w1⟩ := j4d (d := 0) hK1 hC ht hu hs hX (by omega) h8 hp (by omega)
  obtain ⟨t1, u1⟩ := ps_wf ht hu w1 (by omega)
  have hK2 := hK1.fr f1.1
  have hp1 : aR (ps s.1 s.2.1 r 0).1 r 0 = 1 := by rw [ps_R (by omega)]; exact hp
  obtain ⟨ν2, e2, c2, x2, s2', v2, l2, o2, f2, w2⟩ := j4d (d := 1) hK2 c1 t1 u1 s1' x1 (by omega) h8 hp1 (by omega)
  obtain ⟨t2, u2⟩ := ps_wf t1 u1 w2 (by omega)
  have pe : p2 s r = ((ps (ps s.1 s.2.1 r 0).1 (ps s.1 s.2.1 r 0).2.1 r 1).1, (ps (ps s.1 s.2.1 r 0).1 (ps s.1 s.2.1 r 0).2.1 r 1).2.1, up2n s.2.2 r (ps s.1 s.2.1 r 0).2.2 (ps (ps s.1 s.2.1 r 0).1 (ps s.1 s.2.1 r 0).2.1 r 1).2.2) := by unfold p2; rw [if_pos hp]
  rw [pe]
  refine ⟨ν2, ?_, c2, x2, s2', t2, u2, ⟨(hf.1.trans f1.1).trans f2.1, fun hb => f2.2 (f1.2 (hf.2 hb))⟩, fun a b a1 an a8 hb hpa => ?_⟩
  · have e := mLoop_seq0 (b := s4L7 193 11 (nI r) (ro 11 r + 1)) (fun i => (nI i, if i = 0 then μ else if i = 1 then ν1 else ν2)) 2 (o := .inl ν2) (fun i hi => by
      have : i = 0 ∨ i = 1 := by omega
      rcases this with e | e <;> subst e
      · exact e1
      · exact e2) (by
      unfold s4L7
      exact iteT (show nI 2 ≤ nI 2 by decide) rfl) (n := 1000) (by omega)
    unfold s4
    refine iteT (by rw [FabL.s0 hF]) (bindS (j18 hF h8) (iteT (by rw [FabL.rs hF h8]) ?_))
    rw [FabL.rl hF h8]
    exact bindS e rfl
  · show mI ν2 (ro 11 a + 4) b = nI (if a = r then _ else _) ∧ (if a = r then _ else _) ≤ cap (ps (ps s.1 s.2.1 r 0).1 _ r 1).1 a b
    rw [cap_ps, cap_ps]
    rw [cap_ps] at l2
    by_cases e : a = r
    · rw [if_pos e]
      have : b = 0 ∨ b = 1 := by omega
      rcases this with e' | e' <;> subst e'
      · rw [if_pos rfl, o2 a 0 a8 (by omega), e]; exact ⟨v1, l1⟩
      · rw [if_neg (by omega), e]; exact ⟨v2, l2⟩
    · rw [if_neg e, o2 a b a8 (fun z => e z.1), o1 a b a8 (fun z => e z.1)]
      change aR (ps (ps s.1 s.2.1 r 0).1 (ps s.1 s.2.1 r 0).2.1 r 1).1 a 0 = 1 at hpa
      rw [ps_R (by omega), ps_R (by omega)] at hpa
      exact ho a b a1 (by omega) a8 hb hpa
theorem j1b {μ0 : mM} {s : P3} (hK : ClsL (mS μ0) (mP μ0)) (h : KC μ0 μ s 0) : ∃ ν, mLoop (s1L19 193 11) 1000 (1, μ) = some (.inl ν) ∧ KC μ0 ν (p2N s 7) 7 := by
  obtain ⟨ν, e, c⟩ := mLoop_mem (b := s1L19 193 11) (μ := μ) (fun i ν => KC μ0 ν (p2N s i) i) 1 7 (fun i ν hi c => by
    have hF := c.1.1
    have hK' := hK.fr c.2.2.2.2.2.1.1
    have t1 := c.2.2.2.1
    have mc := m_cl (show 1 + i < 2 ^ 31 by omega)
    have rp : mP ν (mP ν 11 0) (Int32.toNatClampNeg (nI (1 + i))) = ro 11 (1 + i) := by rw [FabL.p0 hF, mc, FabL.r hF (by omega)]
    have r0 := RepC.r0 c.1.2 (show 1 + i < 8 by omega)
    have l1 := t1.le1 (show 1 + i < 8 by omega)
    rw [show p2N s (i + 1) = p2 (p2N s i) (1 + i) by rw [Nat.add_comm 1 i]; rfl]
    by_cases p : aR (p2N s i).1 (1 + i) 0 = 1
    · obtain ⟨ν', e', c'⟩ := j4 (r := 1 + i) hK c (by omega) (by omega) p
      rw [show (1 + i) = i + 1 by omega] at c'
      refine ⟨ν', ?_, by rw [show (1 + i) = i + 1 by omega]; exact c'⟩
      unfold s1L19
      refine iteF (by show ¬ nI 8 ≤ nI (1 + i); rw [nI_leI (by omega) (by omega)]; omega) (iteT (by rw [FabL.s0 hF]) (iteT (by rw [FabL.p0 hF, FabL.s1 hF]; exact ⟨rfl, (mInb_iff (by omega)).mpr (by omega)⟩) (iteT (by rw [rp, FabL.rs hF (by omega)]) (iteF (by rw [rp, r0, p]; decide) (iteT (by rw [(ClsL.ck hK').1]) (bindS e' ?_))))))
      show some (Sum.inl (nI (1 + i) + nI 1, _)) = _
      rw [nI_add]
    · have p0 : aR (p2N s i).1 (1 + i) 0 = 0 := by omega
      have pe : p2 (p2N s i) (1 + i) = p2N s i := by unfold p2; rw [if_neg p]
      rw [pe]
      obtain ⟨c1, c2, c3, c4, c5, c6, c7⟩ := c
      refine ⟨ν, ?_, c1, c2, c3, c4, c5, c6, fun a b a1 an a8 hb hpa => c7 a b a1 (by
        by_cases z : a = 1 + i
        · rw [z] at hpa; omega
        · omega) a8 hb hpa⟩
      unfold s1L19
      refine iteF (by show ¬ nI 8 ≤ nI (1 + i); rw [nI_leI (by omega) (by omega)]; omega) (iteT (by rw [FabL.s0 hF]) (iteT (by rw [FabL.p0 hF, FabL.s1 hF]; exact ⟨rfl, (mInb_iff (by omega)).mpr (by omega)⟩) (iteT (by rw [rp, FabL.rs hF (by omega)]) (iteT (by rw [rp, r0, p0]; rfl) ?_))))
      show some (Sum.inl (nI (1 + i) + nI 1, _)) = _
      rw [nI_add]) (fun ν hJ => by
    unfold s1L19
    exact iteT (show nI 8 ≤ nI (1 + 7) by decide) rfl) h (n := 1000) (by omega)
  exact ⟨ν, e, c⟩
end TJ
