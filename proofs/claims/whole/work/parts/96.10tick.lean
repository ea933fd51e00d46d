/-! the tick: cells move along a way -/
section TL
variable {μ ν ν1 : mM} {A : Ab} {r t d n m k a b v c e h : Nat} {sd : SD} {w : Nat → Nat → Nat} {s : Nat → Nat}
/-- another way in place of one -/
def stW (A : Ab) (t d : Nat) (w : Nat → Nat → Nat) : Ab := (A.1, A.2.1, (fun a b c e => if a = t ∧ b = d then w c e else A.2.2.1 a b c e), A.2.2.2)
theorem setW_st : setW (stW A t d w) t d c e v = stW A t d (up2 w c e v) := by
  show ((A.1, A.2.1, (fun a b c' e' => if a = t ∧ b = d ∧ c' = c ∧ e' = e then v else if a = t ∧ b = d then w c' e' else A.2.2.1 a b c' e'), A.2.2.2) : Ab) = (A.1, A.2.1, (fun a b c' e' => if a = t ∧ b = d then up2 w c e v c' e' else A.2.2.1 a b c' e'), A.2.2.2)
  congr 3
  funext a b c' e'
  show (if a = t ∧ b = d ∧ c' = c ∧ e' = e then v else if a = t ∧ b = d then w c' e' else A.2.2.1 a b c' e') = (if a = t ∧ b = d then (if c' = c ∧ e' = e then v else w c' e') else A.2.2.1 a b c' e')
  by_cases z : a = t ∧ b = d
  · rw [if_pos z]
    by_cases y : c' = c ∧ e' = e
    · rw [if_pos ⟨z.1, z.2, y⟩, if_pos y, if_pos z]
    · rw [if_neg (fun x => y x.2.2), if_neg y, if_pos z]
  · rw [if_neg z, if_neg (fun x => z ⟨x.1, x.2.1⟩), if_neg z]
theorem stW_same : stW A t d (aW A t d) = A := by
  show (A.1, A.2.1, _, A.2.2.2) = (A.1, A.2.1, A.2.2.1, A.2.2.2)
  congr 3
  funext a b c' e'
  show (if a = t ∧ b = d then A.2.2.1 t d c' e' else A.2.2.1 a b c' e') = _
  split
  · rename_i z; rw [z.1, z.2]
  · rfl
theorem aW_st : aW (stW A t d w) a b c e = if a = t ∧ b = d then w c e else aW A a b c e := rfl
/-- the hops below n have taken their cells -/
def hw (w : Nat → Nat → Nat) (s : Nat → Nat) : Nat → Nat → Nat → Nat
  | 0 => w
  | h + 1 => up2 (if h = 0 then up2 (hw w s h) 4 0 (hw w s h 4 0 - s 0) else up2 (hw w s h) (h - 1) 2 (hw w s h (h - 1) 2 - s h)) h 2 (hw w s h h 2 + s h)
theorem up2_at {f : Nat → Nat → Nat} : up2 f a b v c e = if c = a ∧ e = b then v else f c e := rfl
theorem up2_same {f : Nat → Nat → Nat} (h : f a b = v) : up2 f a b v = f := by
  funext x y
  rw [up2_at]
  split
  · rename_i z; rw [z.1, z.2]; exact h.symm
  · rfl
theorem hw_spec : ∀ n, n ≤ 4 → (∀ c, c < 4 → hw w s n c 2 = if c < n then (if c + 1 < n then w c 2 + s c - s (c + 1) else w c 2 + s c) else w c 2) ∧ hw w s n 4 0 = (if n = 0 then w 4 0 else w 4 0 - s 0) ∧ ∀ c e, ¬ (c < 4 ∧ e = 2) → ¬ (c = 4 ∧ e = 0) → hw w s n c e = w c e
  | 0, _ => ⟨fun c hc => by rw [if_neg (by omega)]; rfl, rfl, fun c e _ _ => rfl⟩
  | n + 1, hn => by
    obtain ⟨h1, h2, h3⟩ := hw_spec n (by omega)
    refine ⟨fun c hc => ?_, ?_, fun c e x y => ?_⟩
    · rw [hw, up2_at]
      by_cases z : c = n
      · subst z
        rw [if_pos ⟨rfl, rfl⟩, h1 c hc, if_neg (by omega), if_pos (by omega), if_neg (by omega)]
      · rw [if_neg (fun q => z q.1)]
        by_cases n0 : n = 0
        · subst n0
          rw [if_pos rfl, up2_at, if_neg (by omega), h1 c hc, if_neg (by omega), if_neg (by omega)]
        · rw [if_neg n0, up2_at]
          by_cases y : c = n - 1
          · rw [if_pos ⟨y, rfl⟩, h1 (n - 1) (by omega), if_pos (by omega), if_neg (by omega), if_pos (by omega), if_pos (by omega), y, show n - 1 + 1 = n by omega]
          · rw [if_neg (fun q => y q.1), h1 c hc]
            by_cases x : c < n
            · rw [if_pos x, if_pos (by omega), if_pos (by omega), if_pos (by omega)]
            · rw [if_neg x, if_neg (by omega)]
    · rw [hw, up2_at, if_neg (show ¬ (4 = n ∧ 0 = 2) by omega), if_neg (show ¬ n + 1 = 0 by omega)]
      by_cases n0 : n = 0
      · subst n0
        rw [if_pos rfl, up2_at, if_pos ⟨rfl, rfl⟩]; rfl
      · rw [if_neg n0, up2_at, if_neg (by omega), h2, if_neg n0]
    · rw [hw, up2_at, if_neg (by omega)]
      by_cases n0 : n = 0
      · rw [if_pos n0, up2_at, if_neg (by omega)]; exact h3 c e x y
      · rw [if_neg n0, up2_at, if_neg (by omega)]; exact h3 c e x y
theorem hw_stop (h : s n = 0) : hw w s (n + 1) = hw w s n := by
  rw [hw]
  by_cases n0 : n = 0
  · subst n0
    rw [if_pos rfl, h, up2_same (show hw w s 0 4 0 = hw w s 0 4 0 - 0 from rfl), up2_same (show hw w s 0 0 2 = hw w s 0 0 2 + 0 from rfl)]
  · rw [if_neg n0, h, up2_same (show hw w s n (n - 1) 2 = hw w s n (n - 1) 2 - 0 from rfl), up2_same (show hw w s n n 2 = hw w s n n 2 + 0 from rfl)]
/-- the last hop's cells are delivered -/
def dlw (w : Nat → Nat → Nat) (n : Nat) : Nat → Nat → Nat := up2 (up2 w (n - 1) 2 0) 4 1 (w 4 1 + w (n - 1) 2)
def wv (A : Ab) (sd : SD) (t d : Nat) : Nat → Nat → Nat := if aT A t 0 = 1 ∧ ¬ wN A t d = 0 then dlw (hw (aW A t d) (sd t d) (wN A t d)) (wN A t d) else aW A t d
def dv (A : Ab) (sd : SD) (t d : Nat) : Nat := if aT A t 0 = 1 ∧ ¬ wN A t d = 0 then hw (aW A t d) (sd t d) (wN A t d) (wN A t d - 1) 2 else 0
theorem WN_st (hw' : WN A) : WN (stW A t d w) := fun a b x y => hw' a b x y
theorem j94 (hC : CS μ 11 A) (ht : WFt A) (hu : WFu A) (hs : ∀ h, h < wN A t d → sd t d h ≤ wait A t d h) (htt : t < 10) (ho : aT A t 0 = 1) (hd : d < 2) (hX : ∀ h, h < wN A t d → mI μ (wy 11 t d + 5) h = nI (sd t d h)) : ∃ ν, s94 μ (wy 11 t d) = some (nI (dv A sd t d), ν) ∧ CS ν 11 (stW A t d (wv A sd t d)) ∧ (∀ h, h < wN A t d → mI ν (wy 11 t d + 5) h = nI 0) ∧ Fr (wy 11 t d) (wy 11 t d + 6) μ ν ∧ mI ν (wy 11 t d) 0 = mI μ (wy 11 t d) 0 := by
  have hF := hC.1
  have hwn := WN.of ht hu
  have n4 := hwn t d htt ho
  have e1 := RepC.w1 hC.2 htt ho hd
  by_cases n0 : wN A t d = 0
  · refine ⟨μ, ?_, ?_, fun h hh => by omega, Fr.refl _ _ _, rfl⟩
    · have d0 : dv A sd t d = 0 := by unfold dv; rw [if_neg (fun z => z.2 n0)]
      rw [d0]
      unfold s94
      exact iteT (by rw [FabL.ws hF htt hd]) (iteF (by rw [e1, n0]; decide) rfl)
    · unfold wv
      rw [if_neg (fun z => z.2 n0), stW_same]; exact hC
  · obtain ⟨N, hN⟩ : ∃ N, N = wN A t d := ⟨_, rfl⟩
    obtain ⟨W, hW⟩ : ∃ W, W = hw (aW A t d) (sd t d) := ⟨_, rfl⟩
    have key : ∀ h, h < N → sd t d h ≤ wait A t d h := fun h hh => hs h (by omega)
    have cr : ∀ h, h < 4 → aW A t d h 2 ≤ 6 ∧ aW A t d 4 0 ≤ 99 := fun h hh => by
      obtain ⟨-, -, -, -, -, -, -, -, w, -⟩ := hu.o htt ho
      have := (w d hd).2 h hh
      exact ⟨by omega, (w d hd).1⟩
    have sb : ∀ h, h < N → sd t d h ≤ 99 := fun h hh => Nat.le_trans (key h hh) (wait_le hu htt ho hd (by omega))
    obtain ⟨ν, e, c1, x1, f1, z1⟩ := mLoop_mem (b := s94L7 (wy 11 t d)) (μ := μ) (fun i ν => CS ν 11 (stW A t d (W i)) ∧ (∀ h, h < N → mI ν (wy 11 t d + 5) h = if h < i then nI 0 else nI (sd t d h)) ∧ Fr (wy 11 t d) (wy 11 t d + 6) μ ν ∧ mI ν (wy 11 t d) 0 = mI μ (wy 11 t d) 0) 0 N (fun i ν hi hJ => by
      obtain ⟨c1, x1, f1, z1⟩ := hJ
      have hF' := c1.1
      have hwi : WN (stW A t d (W i)) := WN_st hwn
      obtain ⟨s1, s2, s3⟩ := hw_spec (w := aW A t d) (s := sd t d) i (by omega)
      rw [← hW] at s1 s2 s3
      have mc := m_cl (show i < 2 ^ 31 by omega)
      have hoi : aT (stW A t d (W i)) t 0 = 1 := ho
      have wNi : wN (stW A t d (W i)) t d = N := by rw [hN]; exact wN_cg (A := A) (A' := stW A t d (W i)) (fun _ => rfl) rfl rfl
      have vN : mI ν (wy 11 t d) 1 = nI N := by rw [RepC.w1 c1.2 htt hoi hd, wNi]
      have vi := x1 i hi
      rw [if_neg (by omega)] at vi
      have ci : mI ν (wy 11 t d + 4) i = nI (aW A t d i 2) := by
        rw [RepC.x4 c1.2 htt hoi hd (by omega), aW_st, if_pos ⟨rfl, rfl⟩, s1 i (by omega), if_neg (by omega)]
      rw [Nat.zero_add]
      -- the second half of a step
      have half : ∀ ν2 w2, CS ν2 11 (stW A t d w2) → (∀ h, mI ν2 (wy 11 t d + 5) h = mI ν (wy 11 t d + 5) h) → Fr (wy 11 t d) (wy 11 t d + 6) μ ν2 → mI ν2 (wy 11 t d) 0 = mI μ (wy 11 t d) 0 → w2 i 2 = aW A t d i 2 → up2 w2 i 2 (aW A t d i 2 + sd t d i) = W (i + 1) → ∃ ν', s94L7_36 (wy 11 t d) ν2 (nI i) = some (.inl (nI (i + 1), ν')) ∧ CS ν' 11 (stW A t d (W (i + 1))) ∧ (∀ h, h < N → mI ν' (wy 11 t d + 5) h = if h < i + 1 then nI 0 else nI (sd t d h)) ∧ Fr (wy 11 t d) (wy 11 t d + 6) μ ν' ∧ mI ν' (wy 11 t d) 0 = mI μ (wy 11 t d) 0 := fun ν2 w2 c2 y2 f2 z2 a2 u2 => by
        have hF2 := c2.1
        have ho2 : aT (stW A t d w2) t 0 = 1 := ho
        have wN2 : wN (stW A t d w2) t d = N := by rw [hN]; exact wN_cg (A := A) (A' := stW A t d w2) (fun _ => rfl) rfl rfl
        have c4 : mI ν2 (wy 11 t d + 4) i = nI (aW A t d i 2) := by rw [RepC.x4 c2.2 htt ho2 hd (by omega), aW_st, if_pos ⟨rfl, rfl⟩, a2]
        have c5 : mI ν2 (wy 11 t d + 5) i = nI (sd t d i) := by rw [y2, vi]
        obtain ⟨ν3, hν3⟩ : ∃ ν3, ν3 = mUI ν2 (wy 11 t d + 4) i (nI (aW A t d i 2 + sd t d i)) := ⟨_, rfl⟩
        have c3 : CS ν3 11 (stW A t d (W (i + 1))) := by
          have := CS.uX (h := i) (v := aW A t d i 2 + sd t d i) c2 (WN_st hwn) htt hd (by omega)
          rw [setW_st, u2] at this
          rw [hν3]; exact this
        have p8 : mP ν3 (wy 11 t d) 8 = wy 11 t d + 5 := by rw [hν3]; exact FabL.w8 hF2 htt hd
        have q8 : mS ν3 (wy 11 t d + 5) = (10, 4) := by rw [hν3]; exact FabL.v5 hF2 htt hd
        refine ⟨mUI ν3 (wy 11 t d + 5) i 0, ?_, c3.nX htt hd, fun h hh => ?_, (f2.trans (by rw [hν3]; exact Fr_UI ν2 (by omega) (by omega) _ _)).trans (Fr_UI ν3 (by omega) (by omega) _ _), by rw [mI_UIr (by omega), hν3, mI_UIr (by omega)]; exact z2⟩
        · unfold s94L7_36
          refine iteT (by rw [FabL.ws hF2 htt hd]) (iteT (by rw [FabL.w7 hF2 htt hd, FabL.v4 hF2 htt hd]; exact ⟨rfl, (mInb_iff (by omega)).mpr (by omega)⟩) (iteT (by rw [FabL.w8 hF2 htt hd, FabL.v5 hF2 htt hd]; exact ⟨rfl, (mInb_iff (by omega)).mpr (by omega)⟩) (bindS (v := ν3) (by rw [FabL.w7 hF2 htt hd, FabL.w8 hF2 htt hd, mc, c4, c5, nI_add, hν3]) (iteT (by rw [p8, q8]; exact ⟨rfl, (mInb_iff (by omega)).mpr (by omega)⟩) (bindS (v := mUI ν3 (wy 11 t d + 5) i 0) (by rw [p8, mc]) ?_)))))
          show some (Sum.inl (nI i + nI 1, _)) = _
          rw [nI_add]
        · rw [mI_UI]
          by_cases q : h = i
          · rw [if_pos ⟨rfl, q⟩, if_pos (by omega)]; rfl
          · rw [if_neg (fun y => q y.2), hν3, mI_UIr (by omega), y2, x1 h hh]
            by_cases y : h < i
            · rw [if_pos y, if_pos (by omega)]
            · rw [if_neg y, if_neg (by omega)]
      have hd94 : ∀ q, (if ¬ nI i = 0 then (if (mS ν (mP ν (wy 11 t d) 7)).1 = 10 ∧ mInb (nI i - 1) (mS ν (mP ν (wy 11 t d) 7)).2 then if (mS ν (mP ν (wy 11 t d) 8)).1 = 10 ∧ mInb (nI i) (mS ν (mP ν (wy 11 t d) 8)).2 then (some (mUI ν (mP ν (wy 11 t d) 7) (Int32.toNatClampNeg (nI i - 1)) ((mI ν (mP ν (wy 11 t d) 7) (Int32.toNatClampNeg (nI i - 1))) - (mI ν (mP ν (wy 11 t d) 8) (Int32.toNatClampNeg (nI i)))))).bind fun μ5 => s94L7_36 (wy 11 t d) μ5 (nI i) else none else none) else (if (mS ν (mP ν (wy 11 t d) 8)).1 = 10 ∧ mInb (nI i) (mS ν (mP ν (wy 11 t d) 8)).2 then (some (mUI ν (wy 11 t d) 2 ((mI ν (wy 11 t d) 2) - (mI ν (mP ν (wy 11 t d) 8) (Int32.toNatClampNeg (nI i)))))).bind fun μ13 => s94L7_36 (wy 11 t d) μ13 (nI i) else none)) = q → s94L7 (wy 11 t d) (nI i, ν) = q := fun q hq => by
        unfold s94L7
        exact iteT (by rw [FabL.ws hF' htt hd]) (iteF (by rw [vN]; show ¬ nI N ≤ nI i; rw [nI_leI (by omega) (by omega)]; omega) hq)
      by_cases i0 : i = 0
      · subst i0
        have q0 : mI ν (wy 11 t d) 2 = nI (aW A t d 4 0) := by rw [RepC.w2 c1.2 htt hoi hd, aW_st, if_pos ⟨rfl, rfl⟩, s2, if_pos rfl]
        have k0 := key 0 hi
        have k1 : sd t d 0 ≤ aW A t d 4 0 := k0
        have cA := CS.uQ0 (v := aW A t d 4 0 - sd t d 0) c1 hwi htt hd
        rw [setW_st] at cA
        obtain ⟨ν', b1, b2⟩ := half (mUI ν (wy 11 t d) 2 (nI (aW A t d 4 0 - sd t d 0))) _ cA (fun h => by rw [mI_UIr (by omega)]) (f1.trans (Fr_UI ν (by omega) (by omega) _ _)) (by rw [mI_UI, if_neg (by omega)]; exact z1) (by rw [up2_at, if_neg (by omega), s1 0 (by omega), if_neg (by omega)]) (by
          rw [hW]; rfl)
        refine ⟨ν', hd94 _ ?_, b2⟩
        exact iteF (show ¬ ¬ nI 0 = 0 by decide) (iteT (by rw [FabL.w8 hF' htt hd, FabL.v5 hF' htt hd]; exact ⟨rfl, (mInb_iff (by omega)).mpr (by omega)⟩) (bindS (v := mUI ν (wy 11 t d) 2 (nI (aW A t d 4 0 - sd t d 0))) (by rw [FabL.w8 hF' htt hd, mc, q0, vi, nI_sub k1]) b1))
      · have em : nI i - 1 = nI (i - 1) := nI_sub (a := i) (b := 1) (by omega)
        have mc1 := m_cl (show i - 1 < 2 ^ 31 by omega)
        have k1 : sd t d i ≤ aW A t d (i - 1) 2 := by
          have := key i hi
          unfold wait at this
          rw [if_neg i0] at this
          exact this
        have wi : W i (i - 1) 2 = aW A t d (i - 1) 2 + sd t d (i - 1) := by rw [s1 (i - 1) (by omega), if_pos (by omega), if_neg (by omega)]
        have q0 : mI ν (wy 11 t d + 4) (i - 1) = nI (aW A t d (i - 1) 2 + sd t d (i - 1)) := by rw [RepC.x4 c1.2 htt hoi hd (by omega), aW_st, if_pos ⟨rfl, rfl⟩, wi]
        have cA := CS.uX (h := i - 1) (v := aW A t d (i - 1) 2 + sd t d (i - 1) - sd t d i) c1 hwi htt hd (by omega)
        rw [setW_st] at cA
        obtain ⟨ν', b1, b2⟩ := half (mUI ν (wy 11 t d + 4) (i - 1) (nI (aW A t d (i - 1) 2 + sd t d (i - 1) - sd t d i))) _ cA (fun h => by rw [mI_UIr (by omega)]) (f1.trans (Fr_UI ν (by omega) (by omega) _ _)) (by rw [mI_UIr (by omega)]; exact z1) (by rw [up2_at, if_neg (by omega), s1 i (by omega), if_neg (by omega)]) (by
          have s1i := s1 i (by omega)
          rw [if_neg (by omega)] at s1i
          rw [hW] at wi s1i ⊢
          rw [hw, if_neg i0, wi, s1i])
        refine ⟨ν', hd94 _ ?_, b2⟩
        exact iteT (by show ¬ nI i = nI 0; rw [nI_eq (by omega) (by omega)]; exact i0) (iteT (by rw [FabL.w7 hF' htt hd, FabL.v4 hF' htt hd, em]; exact ⟨rfl, (mInb_iff (by omega)).mpr (by omega)⟩) (iteT (by rw [FabL.w8 hF' htt hd, FabL.v5 hF' htt hd]; exact ⟨rfl, (mInb_iff (by omega)).mpr (by omega)⟩) (bindS (v := mUI ν (wy 11 t d + 4) (i - 1) (nI (aW A t d (i - 1) 2 + sd t d (i - 1) - sd t d i))) (by rw [FabL.w7 hF' htt hd, FabL.w8 hF' htt hd, em, mc1, mc, q0, vi, nI_sub (by omega)]) b1)))) (fun ν hJ => by
      obtain ⟨c1, -⟩ := hJ
      have hoi : aT (stW A t d (W N)) t 0 = 1 := ho
      have wNi : wN (stW A t d (W N)) t d = N := by rw [hN]; exact wN_cg (A := A) (A' := stW A t d (W N)) (fun _ => rfl) rfl rfl
      have vN : mI ν (wy 11 t d) 1 = nI N := by rw [RepC.w1 c1.2 htt hoi hd, wNi]
      unfold s94L7
      rw [Nat.zero_add]
      exact iteT (by rw [FabL.ws c1.1 htt hd]) (iteT (by rw [vN]; show nI N ≤ nI N; rw [nI_leI (by omega) (by omega)]; omega) rfl)) ⟨by rw [hW]; show CS μ 11 (stW A t d (aW A t d)); rw [stW_same]; exact hC, fun h hh => by rw [if_neg (by omega)]; exact hX h (by omega), Fr.refl _ _ _, rfl⟩ (n := 1000) (by omega)
    have hF' := c1.1
    have hoi : aT (stW A t d (W N)) t 0 = 1 := ho
    have wNi : wN (stW A t d (W N)) t d = N := by rw [hN]; exact wN_cg (A := A) (A' := stW A t d (W N)) (fun _ => rfl) rfl rfl
    have vN : mI ν (wy 11 t d) 1 = nI N := by rw [RepC.w1 c1.2 htt hoi hd, wNi]
    have em : nI N - 1 = nI (N - 1) := nI_sub (a := N) (b := 1) (by omega)
    have mc1 := m_cl (show N - 1 < 2 ^ 31 by omega)
    have last : mI ν (wy 11 t d + 4) (N - 1) = nI (W N (N - 1) 2) := by rw [RepC.x4 c1.2 htt hoi hd (by omega), aW_st, if_pos ⟨rfl, rfl⟩]
    have del : mI ν (wy 11 t d) 3 = nI (W N 4 1) := by rw [RepC.w3 c1.2 htt hoi hd, aW_st, if_pos ⟨rfl, rfl⟩]
    have hwi : WN (stW A t d (W N)) := WN_st hwn
    have cA := CS.uX (h := N - 1) (v := 0) c1 hwi htt hd (by omega)
    rw [setW_st] at cA
    have cB := CS.uQ1 (v := W N 4 1 + W N (N - 1) 2) cA (WN_st hwn) htt hd
    rw [setW_st] at cB
    refine ⟨mUI (mUI ν (wy 11 t d + 4) (N - 1) (nI 0)) (wy 11 t d) 3 (nI (W N 4 1 + W N (N - 1) 2)), ?_, ?_, fun h hh => ?_, (f1.trans (Fr_UI ν (a := wy 11 t d + 4) (by omega) (by omega) _ _)).trans (Fr_UI _ (a := wy 11 t d) (by omega) (by omega) _ _), ?_⟩
    rotate_left
    · unfold wv dlw
      rw [if_pos ⟨ho, n0⟩, ← hN, ← hW]; exact cB
    · rw [mI_UIr (by omega), mI_UIr (by omega), x1 h (by omega), if_pos (by omega)]
    · rw [mI_UI, if_neg (by omega), mI_UIr (by omega)]; exact z1
    · have d0 : dv A sd t d = W N (N - 1) 2 := by unfold dv; rw [if_pos ⟨ho, n0⟩, ← hN, ← hW]
      rw [d0]
      unfold s94
      refine iteT (by rw [FabL.ws hF htt hd]) (iteT (by rw [e1, ← hN]; show nI 0 < nI N; rw [nI_ltI (by omega) (by omega)]; omega) (bindS e (iteT (by rw [FabL.ws hF' htt hd]) (iteT (by rw [FabL.w7 hF' htt hd, FabL.v4 hF' htt hd, vN, em]; exact ⟨rfl, (mInb_iff (by omega)).mpr (by omega)⟩) (bindS (v := mUI ν (wy 11 t d + 4) (N - 1) (nI 0)) (by rw [FabL.w7 hF' htt hd, vN, em, mc1]; rfl) (bindS (v := mUI (mUI ν (wy 11 t d + 4) (N - 1) (nI 0)) (wy 11 t d) 3 (nI (W N 4 1 + W N (N - 1) 2))) ?_ ?_))))))
      · rw [FabL.w7 hF' htt hd, vN, em, mc1, last, mI_UIr (by omega), del, nI_add]
      · rw [FabL.w7 hF' htt hd, vN, em, mc1, last]
end TL
