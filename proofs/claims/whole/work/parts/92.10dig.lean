/-! digest -/
section DG
variable {μ : mM} {A : Ab} {r t d : Nat} {L : Nat} {xs : Nat → Int32}
def mix (h : Int64) (v : Int32) : Int64 := (Int64.ofNat 31) * h + Int32.toInt64 v
/-- memory with the reference's long -/
abbrev rJ (μ : mM) (h : Int64) : mM := mUJ μ 200 20 h
theorem rJ_rJ {h g : Int64} : mUJ (rJ μ h) 200 20 g = rJ μ g := by
  have : mU (mU μ.2.2.1 200 20 h) 200 20 g = mU μ.2.2.1 200 20 g := by
    funext a b
    unfold mU
    by_cases z : a = 200 ∧ b = 20
    · rw [if_pos z, if_pos z]
    · rw [if_neg z, if_neg z, if_neg z]
  show (μ.1, μ.2.1, mU (mU μ.2.2.1 200 20 h) 200 20 g, μ.2.2.2) = (μ.1, μ.2.1, mU μ.2.2.1 200 20 g, μ.2.2.2)
  rw [this]
theorem k238 (hR : RefL (mS μ) (mP μ)) {h : Int64} {v : Int32} : s238 (rJ μ h) 200 v = some (rJ μ (mix h v)) := by
  unfold s238
  refine iteT (by show (mS μ 200).1 = 9; rw [RefL.s hR]) ?_
  show some (mUJ (rJ μ h) 200 20 (Int64.ofNat 31 * mJ (rJ μ h) 200 20 + Int32.toInt64 v)) = _
  rw [rJ_rJ, show mJ (rJ μ h) 200 20 = h by rw [mJ_UJ, if_pos ⟨rfl, rfl⟩]]; rfl
/-- a row of numbers mixed in, by the class / by the reference -/
theorem cRow {b : Int64 × Int32 → Option ((Int64 × Int32) ⊕ (Int64 ⊕ Int64))} (g : Nat → Int64 → Int64) (s n : Nat) (hs : ∀ i h, i < n → b (h, nI (s + i)) = some (.inl (g i h, nI (s + i + 1)))) (he : ∀ h, b (h, nI (s + n)) = some (.inr (.inl h))) (hn : n < 1000) (h : Int64) : mLoop b 1000 (h, nI s) = some (.inl (rp g n h)) :=
  mLoop_rp (b := b) (fun i x => (x, nI (s + i))) g n (a := h) (o := fun x => .inl x) (fun i x hi => by rw [hs i x hi, Nat.add_assoc]) he hn
theorem rRow {ρ : Type} {b : Int32 × mM → Option ((Int32 × mM) ⊕ (mM ⊕ ρ))} (g : Nat → Int64 → Int64) (s n : Nat) (hs : ∀ i h, i < n → b (nI (s + i), rJ μ h) = some (.inl (nI (s + i + 1), rJ μ (g i h)))) (he : ∀ h, b (nI (s + n), rJ μ h) = some (.inr (.inl (rJ μ h)))) (hn : n < 1000) (h : Int64) : mLoop b 1000 (nI s, rJ μ h) = some (.inl (rJ μ (rp g n h))) :=
  mLoop_rp (b := b) (fun i x => (nI (s + i), rJ μ x)) g n (a := h) (o := fun x => .inl (rJ μ x)) (fun i x hi => by rw [hs i x hi, Nat.add_assoc]) he hn
theorem lenI {m i : Nat} (h : i < m) (hm : m < 2 ^ 31) : ¬ nI m ≤ nI i := by rw [nI_leI hm (by omega)]; omega
theorem leI {m i : Nat} (h : m ≤ i) (hm : i < 2 ^ 31) : nI m ≤ nI i := by rw [nI_leI (by omega) hm]; exact h
theorem nltI {m i : Nat} (h : i ≤ m) (hm : m < 2 ^ 31) : ¬ nI m < nI i := by rw [nI_ltI hm (by omega)]; omega
theorem ltI {m i : Nat} (h : m < i) (hm : i < 2 ^ 31) : nI m < nI i := by rw [nI_ltI (by omega) hm]; exact h
theorem p1I {i : Nat} : nI i + 1 = nI (i + 1) := nI_add _ 1
/-- a router -/
theorem dgR (hS : St μ A) (r : Nat) : ∃ G : Int64 → Int64, ∀ h, s128 μ 2 h (nI r) = some (G h) ∧ s239 (rJ μ h) 200 (nI r) = some (rJ μ (G h)) := by
  obtain ⟨hK, hC, hM, ht, hu⟩ := id hS
  have s8 : (mS μ 2).1 = 8 := by rw [ClsL.s hK]
  have s9 : ∀ h, (mS (rJ μ h) 200).1 = 9 := fun h => by show (mS μ 200).1 = 9; rw [RefL.s hM.1]
  obtain ⟨f1, v1⟩ : ∃ f : Nat → Int32, ∀ i, s104 μ 2 (nI r) (nI i) = some (f i) ∧ s188 μ 200 (nI r) (nI i) = some (f i) := ⟨fun i => Classical.choose (pub7 hS (nI r) (nI i)), fun i => Classical.choose_spec (pub7 hS (nI r) (nI i))⟩
  obtain ⟨f2, v2⟩ : ∃ f : Nat → Int32, ∀ i, s106 μ 2 (nI r) (nI i) = some (f i) ∧ s190 μ 200 (nI r) (nI i) = some (f i) := ⟨fun i => Classical.choose (pub9 hS (nI r) (nI i)), fun i => Classical.choose_spec (pub9 hS (nI r) (nI i))⟩
  obtain ⟨f3, v3⟩ : ∃ f : Nat → Int32, ∀ i, s107 μ 2 (nI r) (nI i) = some (f i) ∧ s192 μ 200 (nI r) (nI i) = some (f i) := ⟨fun i => Classical.choose (pub10 hS (nI r) (nI i)), fun i => Classical.choose_spec (pub10 hS (nI r) (nI i))⟩
  obtain ⟨f4, v4⟩ : ∃ f : Nat → Int32, ∀ i, s108 μ 2 (nI r) (nI i) = some (f i) ∧ s193 μ 200 (nI r) (nI i) = some (f i) := ⟨fun i => Classical.choose (pub11 hS (nI r) (nI i)), fun i => Classical.choose_spec (pub11 hS (nI r) (nI i))⟩
  obtain ⟨f5, v5⟩ : ∃ f : Nat → Int32, ∀ i, s109 μ 2 (nI r) (nI i) = some (f i) ∧ s195 μ 200 (nI r) (nI i) = some (f i) := ⟨fun i => Classical.choose (pub12 hS (nI r) (nI i)), fun i => Classical.choose_spec (pub12 hS (nI r) (nI i))⟩
  have c1 := cRow (b := s128L4 μ 2 (nI r)) (fun i h => mix h (f1 i)) 0 6 (fun i h hi => by
    rw [Nat.zero_add]; unfold s128L4
    refine iteF (nltI (m := 5) (i := i) (by omega) (by omega)) (iteT s8 (bindS (v1 i).1 ?_))
    rw [p1I]; rfl) (fun h => by
    unfold s128L4
    exact iteT (ltI (m := 5) (i := 0 + 6) (by omega) (by omega)) rfl) (by omega)
  have c2 := cRow (b := s128L21 μ 2 (nI r)) (fun i h => mix h (f2 i)) 0 7 (fun i h hi => by
    rw [Nat.zero_add]; unfold s128L21
    refine iteF (nltI (m := 6) (i := i) (by omega) (by omega)) (iteT s8 (bindS (v2 i).1 ?_))
    rw [p1I]; rfl) (fun h => by
    unfold s128L21
    exact iteT (ltI (m := 6) (i := 0 + 7) (by omega) (by omega)) rfl) (by omega)
  have c3 := cRow (b := s128L38 μ 2 (nI r)) (fun i h => mix (mix (mix h (f3 i)) (f4 i)) (f5 i)) 0 2 (fun i h hi => by
    rw [Nat.zero_add]; unfold s128L38
    refine iteF (lenI (m := 2) (i := i) (by omega) (by omega)) (iteT s8 (bindS (v3 i).1 (bindS (v4 i).1 (bindS (v5 i).1 ?_))))
    rw [p1I]; rfl) (fun h => by
    unfold s128L38
    exact iteT (leI (m := 2) (i := 0 + 2) (by omega) (by omega)) rfl) (by omega)
  have d1 := rRow (μ := μ) (b := s239L2 200 (nI r)) (fun i h => mix h (f1 i)) 0 6 (fun i h hi => by
    rw [Nat.zero_add]; unfold s239L2
    refine iteF (lenI (m := 6) (i := i) (by omega) (by omega)) (iteT (s9 h) (bindS (v := f1 i) ((q188 (μ := μ)).trans (v1 i).2) (bindS (k238 hM.1) ?_)))
    rw [p1I]) (fun h => by
    unfold s239L2
    exact iteT (leI (m := 6) (i := 0 + 6) (by omega) (by omega)) rfl) (by omega)
  have d2 := rRow (μ := μ) (b := s239L15 200 (nI r)) (fun i h => mix h (f2 i)) 0 7 (fun i h hi => by
    rw [Nat.zero_add]; unfold s239L15
    refine iteF (lenI (m := 7) (i := i) (by omega) (by omega)) (iteT (s9 h) (bindS (v := f2 i) ((q190 (μ := μ)).trans (v2 i).2) (bindS (k238 hM.1) ?_)))
    rw [p1I]) (fun h => by
    unfold s239L15
    exact iteT (leI (m := 7) (i := 0 + 7) (by omega) (by omega)) rfl) (by omega)
  have d3 := rRow (μ := μ) (b := s239L28 200 (nI r)) (fun i h => mix (mix (mix h (f3 i)) (f4 i)) (f5 i)) 0 2 (fun i h hi => by
    rw [Nat.zero_add]; unfold s239L28
    refine iteF (lenI (m := 2) (i := i) (by omega) (by omega)) (iteT (s9 h) (bindS (v := f3 i) ((q192 (μ := μ)).trans (v3 i).2) (bindS (k238 hM.1) (iteT (s9 _) (bindS (v := f4 i) ((q193 (μ := μ)).trans (v4 i).2) (bindS (k238 hM.1) (iteT (s9 _) (bindS (v := f5 i) ((q195 (μ := μ)).trans (v5 i).2) (bindS (k238 hM.1) ?_)))))))))
    rw [p1I]) (fun h => by
    unfold s239L28
    exact iteT (leI (m := 2) (i := 0 + 2) (by omega) (by omega)) rfl) (by omega)
  refine ⟨fun h => rp (fun i h => mix (mix (mix h (f3 i)) (f4 i)) (f5 i)) 2 (rp (fun i h => mix h (f2 i)) 7 (rp (fun i h => mix h (f1 i)) 6 h)), fun h => ⟨?_, ?_⟩⟩
  · unfold s128
    refine bindS (c1 h) ?_
    refine bindS (c2 _) ?_
    exact bindS (c3 _) rfl
  · unfold s239
    refine bindS (d1 h) ?_
    refine bindS (d2 _) ?_
    exact bindS (d3 _) rfl
theorem rp_succ {α : Type} {g : Nat → α → α} {n : Nat} {x : α} : rp g (n + 1) x = g n (rp g n x) := rfl
theorem rp_4i {V : Nat → Int32} {h : Int64} : rp (fun j h => mix h (V j)) 4 h = mix (mix (mix (mix h (V 0)) (V 1)) (V 2)) (V 3) := rfl
theorem rp_blk {α : Type} {g G : Nat → α → α} (H : ∀ n x, g (4 * n + 3) (g (4 * n + 2) (g (4 * n + 1) (g (4 * n) x))) = G n x) (x : α) (n : Nat) : rp g (4 * n) x = rp G n x := by
  have s : ∀ m, rp g (m + 1) x = g m (rp g m x) := fun _ => rfl
  induction n with
  | zero => rfl
  | succ n ih =>
    have e : rp g (4 * n + 3 + 1) x = rp g (4 * (n + 1)) x := by rw [show 4 * n + 3 + 1 = 4 * (n + 1) by omega]
    have e1 : rp g (4 * n + 1) x = g (4 * n) (rp g (4 * n) x) := s _
    have e2 : rp g (4 * n + 2) x = g (4 * n + 1) (rp g (4 * n + 1) x) := s _
    have e3 : rp g (4 * n + 3) x = g (4 * n + 2) (rp g (4 * n + 2) x) := s _
    rw [← e, s, e3, e2, e1, ih, H]
    rfl
theorem rp_4 {V : Nat → Nat → Int32} {h : Int64} (n : Nat) : rp (fun k h => mix h (V (k / 4) (k % 4))) (4 * n) h = rp (fun i h => rp (fun j h => mix h (V i j)) 4 h) n h := by
  refine rp_blk (fun n x => ?_) h n
  have d0 : 4 * n / 4 = n ∧ 4 * n % 4 = 0 := by omega
  have d1 : (4 * n + 1) / 4 = n ∧ (4 * n + 1) % 4 = 1 := by omega
  have d2 : (4 * n + 2) / 4 = n ∧ (4 * n + 2) % 4 = 2 := by omega
  have d3 : (4 * n + 3) / 4 = n ∧ (4 * n + 3) % 4 = 3 := by omega
  rw [rp_4i (V := V n)]
  show mix (mix (mix (mix x (V (4 * n / 4) (4 * n % 4))) (V ((4 * n + 1) / 4) ((4 * n + 1) % 4))) (V ((4 * n + 2) / 4) ((4 * n + 2) % 4))) (V ((4 * n + 3) / 4) ((4 * n + 3) % 4)) = _
  rw [d0.1, d0.2, d1.1, d1.2, d2.1, d2.2, d3.1, d3.2]
/-- a way -/
theorem dgW (hS : St μ A) (htt : t < 10) (ho : aT A t 0 = 1) (hd : d < 2) (hU : wU A t d = 1) (q : Int32) : ∃ G : Int64 → Int64, ∀ h, s130 μ 2 h (nI t) (nI d) = some (G h) ∧ ∃ x, mLoop (s240L22L32 200 (nI t) q (nI d)) 1000 (nI 0, rJ μ h) = some (.inl (rJ μ x)) ∧ (q = nI (dep A (aT A t 2)) → mLoop (s240L22L46 200 (nI t) q (nI d)) 1000 (nI 0, rJ μ x) = some (.inl (rJ μ (G h)))) := by
  obtain ⟨hK, hC, hM, ht, hu⟩ := id hS
  have hF := hC.1
  have s8 : (mS μ 2).1 = 8 := by rw [ClsL.s hK]
  have s9 : ∀ h, (mS (rJ μ h) 200).1 = 9 := fun h => by show (mS μ 200).1 = 9; rw [RefL.s hM.1]
  have hw4 := wN_le (d := d) ht hu htt ho
  have hwd : wN A t d = dep A (aT A t 2) := by
    rcases wUN (A := A) (t := t) (d := d) with ⟨u1, u2⟩ | ⟨u1, u2⟩
    · omega
    · exact u2
  obtain ⟨f1, v1⟩ : ∃ f : Nat → Int32, ∀ i, s116 μ 2 (nI t) (nI d) (nI i) = some (f i) ∧ s207 μ 200 (nI t) (nI d) (nI i) = some (f i) := ⟨fun i => Classical.choose (pub19 hS (nI t) (nI d) (nI i)), fun i => Classical.choose_spec (pub19 hS (nI t) (nI d) (nI i))⟩
  obtain ⟨f2, v2⟩ : ∃ f : Nat → Nat → Int32, ∀ i j, s115 μ 2 (nI t) (nI d) (nI i) (nI j) = some (f i j) ∧ s206 μ 200 (nI t) (nI d) (nI i) (nI j) = some (f i j) := ⟨fun i j => Classical.choose (pub18 hS (nI t) (nI d) (nI i) (nI j)), fun i j => Classical.choose_spec (pub18 hS (nI t) (nI d) (nI i) (nI j))⟩
  have c1 := cRow (b := s130L4 μ 2 (nI t) (nI d)) (fun i h => mix h (f1 i)) 0 3 (fun i h hi => by
    rw [Nat.zero_add]; unfold s130L4
    refine iteF (nltI (m := 2) (i := i) (by omega) (by omega)) (iteT s8 (bindS (v1 i).1 ?_))
    rw [p1I]; rfl) (fun h => by
    unfold s130L4
    exact iteT (ltI (m := 2) (i := 0 + 3) (by omega) (by omega)) rfl) (by omega)
  have ci : ∀ i, ∀ h, mLoop (s130L31L36 μ 2 (nI t) (nI d) (nI (wN A t d)) (nI i)) 1000 (h, nI 0) = some (.inl (rp (fun j h => mix h (f2 i j)) 4 h)) := fun i => cRow (b := s130L31L36 μ 2 (nI t) (nI d) (nI (wN A t d)) (nI i)) (fun j h => mix h (f2 i j)) 0 4 (fun j h hj => by
    rw [Nat.zero_add]; unfold s130L31L36
    refine iteF (nltI (m := 3) (i := j) (by omega) (by omega)) (iteT s8 (bindS (v2 i j).1 ?_))
    rw [p1I]; rfl) (fun h => by
    unfold s130L31L36
    exact iteT (ltI (m := 3) (i := 0 + 4) (by omega) (by omega)) rfl) (by omega)
  have c2 := cRow (b := s130L31 μ 2 (nI t) (nI d) (nI (wN A t d))) (fun i h => rp (fun j h => mix h (f2 i j)) 4 h) 0 (wN A t d) (fun i h hi => by
    rw [Nat.zero_add]; unfold s130L31
    refine iteF (lenI hi (by omega)) (bindS (ci i h) ?_)
    show some (Sum.inl (_, nI i + 1)) = _
    rw [p1I]) (fun h => by
    unfold s130L31
    exact iteT (leI (by omega) (by omega)) rfl) (by omega)
  have d1 := rRow (μ := μ) (b := s240L22L32 200 (nI t) q (nI d)) (fun i h => mix h (f1 i)) 0 3 (fun i h hi => by
    rw [Nat.zero_add]; unfold s240L22L32
    refine iteF (lenI (m := 3) (i := i) (by omega) (by omega)) (iteT (s9 h) (bindS (v := f1 i) ((q207 (μ := μ)).trans (v1 i).2) (bindS (k238 hM.1) ?_)))
    rw [p1I]) (fun h => by
    unfold s240L22L32
    exact iteT (leI (m := 3) (i := 0 + 3) (by omega) (by omega)) rfl) (by omega)
  refine ⟨fun h => rp (fun i h => rp (fun j h => mix h (f2 i j)) 4 h) (wN A t d) (rp (fun i h => mix h (f1 i)) 3 h), fun h => ⟨?_, _, d1 h, fun hq => ?_⟩⟩
  · unfold s130
    refine bindS (c1 h) ?_
    show (if (mS μ 2).1 = 8 then _ else _) = _
    have mc := m_cl (show t < 2 ^ 31 by omega)
    refine iteT s8 (iteT (by rw [ClsL.p1 hK, FabL.s0 hF]) (iteT (by rw [ClsL.p1 hK, FabL.p1 hF, FabL.s2 hF]; exact ⟨rfl, (mInb_iff (by omega)).mpr htt⟩) (iteT (by rw [ClsL.p1 hK, FabL.p1 hF, mc, FabL.tp hF htt, FabL.ts hF htt]) (bindS (v := wy 11 t d) (by rw [ClsL.p1 hK, FabL.p1 hF, mc, FabL.tp hF htt]; exact j78 hF htt hd) (iteT (by rw [FabL.ws hF htt hd]) ?_)))))
    rw [RepC.w1 hC.2 htt ho hd]
    exact bindS (c2 _) rfl
  · subst hq
    show mLoop (s240L22L46 200 (nI t) (nI (dep A (aT A t 2))) (nI d)) 1000 (nI 0, rJ μ (rp (fun i h => mix h (f1 i)) 3 h)) = some (.inl (rJ μ (rp (fun i h => rp (fun j h => mix h (f2 i j)) 4 h) (wN A t d) (rp (fun i h => mix h (f1 i)) 3 h))))
    rw [← rp_4, hwd]
    refine rRow (μ := μ) (b := s240L22L46 200 (nI t) (nI (dep A (aT A t 2))) (nI d)) (fun k h => mix h (f2 (k / 4) (k % 4))) 0 (4 * dep A (aT A t 2)) (fun i h hi => ?_) (fun h => ?_) (by omega) _
    · rw [Nat.zero_add]; unfold s240L22L46
      have e1 : nI i / 4 = nI (i / 4) := nI_div (b := 4) (by omega) (by omega)
      have e2 : nI i - nI i / 4 * 4 = nI (i % 4) := by
        rw [e1, show nI (i / 4) * 4 = nI (i / 4 * 4) from nI_mul _ 4, nI_sub (by omega)]
        congr 1; omega
      have e3 : (4 : Int32) * nI (dep A (aT A t 2)) = nI (4 * dep A (aT A t 2)) := nI_mul 4 _
      refine iteF (by rw [e3]; exact lenI hi (by omega)) (iteT (s9 h) (bindS (v := f2 (i / 4) (i % 4)) ?_ (bindS (k238 hM.1) ?_)))
      · show s206 (rJ μ h) 200 (nI t) (nI d) (nI i / 4) (nI i - nI i / 4 * 4) = _
        rw [e2, e1]
        exact (q206 (μ := μ)).trans (v2 (i / 4) (i % 4)).2
      · rw [p1I]
    · unfold s240L22L46
      have e3 : (4 : Int32) * nI (dep A (aT A t 2)) = nI (4 * dep A (aT A t 2)) := nI_mul 4 _
      exact iteT (by rw [e3]; exact leI (by omega) (by omega)) rfl
/-- a tunnel -/
theorem dgT (hS : St μ A) (htt : t < 10) (ho : aT A t 0 = 1) : ∃ G : Int64 → Int64, ∀ h, s129 μ 2 h (nI t) = some (G h) ∧ s240 (rJ μ h) 200 (nI t) = some (rJ μ (G h)) := by
  obtain ⟨hK, hC, hM, ht, hu⟩ := id hS
  have hF := hC.1
  have s8 : (mS μ 2).1 = 8 := by rw [ClsL.s hK]
  have s9 : ∀ h, (mS (rJ μ h) 200).1 = 9 := fun h => by show (mS μ 200).1 = 9; rw [RefL.s hM.1]
  have hMJ : ∀ h, RS (rJ μ h) A := fun h => hM
  obtain ⟨o1, o2, o3, o4, -⟩ := hu.o htt ho
  have mc := m_cl (show t < 2 ^ 31 by omega)
  obtain ⟨f1, v1⟩ : ∃ f : Nat → Int32, ∀ i, s114 μ 2 (nI t) (nI i) = some (f i) ∧ s205 μ 200 (nI t) (nI i) = some (f i) := ⟨fun i => Classical.choose (pub17 hS (nI t) (nI i)), fun i => Classical.choose_spec (pub17 hS (nI t) (nI i))⟩
  have c1 := cRow (b := s129L4 μ 2 (nI t)) (fun i h => mix h (f1 i)) 0 6 (fun i h hi => by
    rw [Nat.zero_add]; unfold s129L4
    refine iteF (nltI (m := 5) (i := i) (by omega) (by omega)) (iteT s8 (bindS (v1 i).1 ?_))
    rw [p1I]; rfl) (fun h => by
    unfold s129L4
    exact iteT (ltI (m := 5) (i := 0 + 6) (by omega) (by omega)) rfl) (by omega)
  have d1 := rRow (μ := μ) (b := s240L2 200 (nI t)) (fun i h => mix h (f1 i)) 0 6 (fun i h hi => by
    rw [Nat.zero_add]; unfold s240L2
    refine iteF (lenI (m := 6) (i := i) (by omega) (by omega)) (iteT (s9 h) (bindS (v := f1 i) ((q205 (μ := μ)).trans (v1 i).2) (bindS (k238 hM.1) ?_)))
    rw [p1I]) (fun h => by
    unfold s240L2
    exact iteT (leI (m := 6) (i := 0 + 6) (by omega) (by omega)) rfl) (by omega)
  -- both directions
  have way : ∀ d, ∃ G : Int64 → Int64, d < 2 → ∀ h, s129L21 μ 2 (nI t) (h, nI d) = some (.inl (G h, nI (d + 1))) ∧ s240L22 200 (nI t) (nI (dep A (aT A t 2))) (nI d, rJ μ h) = some (.inl (nI (d + 1), rJ μ (G h))) := fun d => by
    by_cases hd : d < 2
    · have e0 := RepC.w0 hC.2 htt ho hd
      have head : ∀ {R h}, (if (mI μ (wy 11 t d) 0) = 0 then (s129L21_39 μ 2 (nI t) h (nI d)) else ((s130 μ 2 h (nI t) (nI d)).bind fun q16 => s129L21_39 μ 2 (nI t) q16 (nI d))) = R → s129L21 μ 2 (nI t) (h, nI d) = R := fun {R h} hR => by
        unfold s129L21
        exact iteF (lenI (m := 2) (by omega) (by omega)) (iteT s8 (iteT (by rw [ClsL.p1 hK, FabL.s0 hF]) (iteT (by rw [ClsL.p1 hK, FabL.p1 hF, FabL.s2 hF]; exact ⟨rfl, (mInb_iff (by omega)).mpr htt⟩) (iteT (by rw [ClsL.p1 hK, FabL.p1 hF, mc, FabL.tp hF htt, FabL.ts hF htt]) (bindS (v := wy 11 t d) (by rw [ClsL.p1 hK, FabL.p1 hF, mc, FabL.tp hF htt]; exact j78 hF htt hd) (iteT (by rw [FabL.ws hF htt hd]) hR))))))
      rcases wUN (A := A) (t := t) (d := d) with ⟨u1, u2⟩ | ⟨u1, u2⟩
      · refine ⟨id, fun _ h => ⟨head (iteT (by rw [e0, u1]; rfl) ?_), ?_⟩⟩
        · unfold s129L21_39; rw [p1I]; rfl
        · unfold s240L22
          refine iteF (lenI (m := 2) (by omega) (by omega)) (iteT (s9 h) (bindS (v := nI 0) (by show s203 (rJ μ h) 200 (nI t) (nI d) = _; rw [k203 (hMJ h) hu htt ho hd, u1]) (iteT rfl ?_)))
          unfold s240L22_65; rw [p1I]; rfl
      · obtain ⟨G, hG⟩ := dgW hS htt ho hd u1 (nI (dep A (aT A t 2)))
        refine ⟨G, fun _ h => ?_⟩
        obtain ⟨g1, x, g2, g3⟩ := hG h
        refine ⟨head (iteF (by rw [e0, u1]; decide) (bindS g1 ?_)), ?_⟩
        · unfold s129L21_39; rw [p1I]
        · unfold s240L22
          refine iteF (lenI (m := 2) (by omega) (by omega)) (iteT (s9 h) (bindS (v := nI 1) (by show s203 (rJ μ h) 200 (nI t) (nI d) = _; rw [k203 (hMJ h) hu htt ho hd, u1]) (iteF (by decide) (bindS g2 ?_))))
          refine bindS (g3 rfl) ?_
          show s240L22_65 200 (nI t) (nI (dep A (aT A t 2))) (rJ μ (G h)) (nI d) = _
          unfold s240L22_65; rw [p1I]
    · exact ⟨id, fun z => absurd z hd⟩
  obtain ⟨GG, hGG⟩ : ∃ G : Nat → Int64 → Int64, ∀ d, d < 2 → ∀ h, s129L21 μ 2 (nI t) (h, nI d) = some (.inl (G d h, nI (d + 1))) ∧ s240L22 200 (nI t) (nI (dep A (aT A t 2))) (nI d, rJ μ h) = some (.inl (nI (d + 1), rJ μ (G d h))) := ⟨fun d => Classical.choose (way d), fun d => Classical.choose_spec (way d)⟩
  have c2 := cRow (b := s129L21 μ 2 (nI t)) GG 0 2 (fun i h hi => by rw [Nat.zero_add]; exact (hGG i hi h).1) (fun h => by
    unfold s129L21
    exact iteT (leI (m := 2) (i := 0 + 2) (by omega) (by omega)) rfl) (by omega)
  have d2 := rRow (μ := μ) (b := s240L22 200 (nI t) (nI (dep A (aT A t 2)))) GG 0 2 (fun i h hi => by rw [Nat.zero_add]; exact (hGG i hi h).2) (fun h => by
    unfold s240L22
    exact iteT (leI (m := 2) (i := 0 + 2) (by omega) (by omega)) rfl) (by omega)
  refine ⟨fun h => rp GG 2 (rp (fun i h => mix h (f1 i)) 6 h), fun h => ⟨?_, ?_⟩⟩
  · unfold s129
    refine bindS (c1 h) ?_
    exact bindS (c2 _) rfl
  · unfold s240
    refine bindS (d1 h) ?_
    show (if (mS (rJ μ _) 200).1 = 9 then _ else _) = _
    refine iteT (s9 _) (bindS (k159 (hMJ _) htt (k := 2) (by omega)) (bindS (k152 (hMJ _) ht o3 o4) ?_))
    exact bindS (d2 _) rfl
theorem mix_m1 {h : Int64} : mix h (-1) = Int64.ofNat 31 * h - Int64.ofNat 1 := by
  unfold mix
  rw [Int64.sub_eq_add_neg]; rfl
theorem op30 : Op30 (Inv L xs) := fun μ hI => by
  obtain ⟨⟨i1, i2⟩, ⟨A, hS, hZ⟩, ⟨n, n1, n2, n3, n4⟩, hsl, hBZ⟩ := id hI
  obtain ⟨hK, hC, hM, ht, hu⟩ := id hS
  have hF := hC.1
  have s8 : (mS μ 2).1 = 8 := by rw [ClsL.s hK]
  have sF : (mS μ (mP μ 2 1)).1 = 1 := by rw [ClsL.p1 hK, FabL.s0 hF]
  have s9 : ∀ h, (mS (rJ μ h) 200).1 = 9 := fun h => by show (mS μ 200).1 = 9; rw [RefL.s hM.1]
  have hMJ : ∀ h, RS (rJ μ h) A := fun h => hM
  have hT : mI μ 3 1 = mI μ 200 6 := n2.trans n3.symm
  obtain ⟨f1, v1⟩ : ∃ f : Nat → Int32, ∀ i, s124 μ 2 (nI i) = some (f i) ∧ s235 μ 200 (nI i) = some (f i) := ⟨fun i => Classical.choose (pub27 hS hT (nI i)), fun i => Classical.choose_spec (pub27 hS hT (nI i))⟩
  have c1 := cRow (b := s127L4 μ 2) (fun i h => mix h (f1 i)) 0 9 (fun i h hi => by
    rw [Nat.zero_add]; unfold s127L4
    refine iteF (nltI (m := 8) (i := i) (by omega) (by omega)) (iteT s8 (bindS (v1 i).1 ?_))
    rw [p1I]; rfl) (fun h => by
    unfold s127L4
    exact iteT (ltI (m := 8) (i := 0 + 9) (by omega) (by omega)) rfl) (by omega)
  have d1 := rRow (μ := μ) (b := s241L5 200) (fun i h => mix h (f1 i)) 0 9 (fun i h hi => by
    rw [Nat.zero_add]; unfold s241L5
    refine iteF (lenI (m := 9) (i := i) (by omega) (by omega)) (iteT (s9 h) (bindS (v := f1 i) ((q235 (μ := μ)).trans (v1 i).2) (bindS (k238 hM.1) ?_)))
    rw [p1I]) (fun h => by
    unfold s241L5
    exact iteT (leI (m := 9) (i := 0 + 9) (by omega) (by omega)) rfl) (by omega)
  have rt : ∀ i, ∃ G : Int64 → Int64, i < 7 → ∀ h, s127L20 μ 2 (h, nI (1 + i)) = some (.inl (G h, nI (1 + i + 1))) ∧ s241L17 200 (nI (1 + i), rJ μ h) = some (.inl (nI (1 + i + 1), rJ μ (G h))) := fun i => by
    by_cases hi : i < 7
    · have hl := ht.le1 (r := 1 + i) (by omega)
      by_cases hp : aR A (1 + i) 0 = 1
      · obtain ⟨G, hG⟩ := dgR hS (1 + i)
        refine ⟨G, fun _ h => ⟨?_, ?_⟩⟩
        · unfold s127L20
          refine iteF (lenI (m := 8) (by omega) (by omega)) (iteT s8 (iteT sF (bindS (v := nI 1) (by rw [ClsL.p1 hK]; exact lnk1 hC (by omega) (by omega) hp) (iteF (by decide) (bindS (hG h).1 ?_)))))
          unfold s127L20_38; rw [p1I]
        · unfold s241L17
          refine iteF (lenI (m := 8) (by omega) (by omega)) (iteT (s9 h) (bindS (v := nI 1) (by show s148 (rJ μ h) 200 (nI (1 + i)) (nI 0) = _; rw [k148 (hMJ h) (by omega) (by omega), hp]) (iteF (by decide) (bindS (hG h).2 ?_))))
          unfold s241L17_33; rw [p1I]
      · refine ⟨fun h => mix h (-1), fun _ h => ⟨?_, ?_⟩⟩
        · unfold s127L20
          refine iteF (lenI (m := 8) (by omega) (by omega)) (iteT s8 (iteT sF (bindS (v := nI 0) (by rw [ClsL.p1 hK, j15 hC (by omega) hl]; simp [hp, bI]) (iteT rfl ?_))))
          unfold s127L20_38; rw [p1I]; show some (Sum.inl (Int64.ofNat 31 * h - Int64.ofNat 1, _)) = some (Sum.inl (mix h (-1), _)); rw [mix_m1]
        · unfold s241L17
          refine iteF (lenI (m := 8) (by omega) (by omega)) (iteT (s9 h) (bindS (v := nI (aR A (1 + i) 0)) (by show s148 (rJ μ h) 200 (nI (1 + i)) (nI 0) = _; rw [k148 (hMJ h) (by omega) (by omega)]) (iteT (by rw [L_1, nI_eq (by omega) (by omega)]; exact hp) (bindS (k238 hM.1) ?_))))
          unfold s241L17_33; rw [p1I]
    · exact ⟨id, fun z => absurd z hi⟩
  obtain ⟨GR, hGR⟩ : ∃ G : Nat → Int64 → Int64, ∀ i, i < 7 → ∀ h, s127L20 μ 2 (h, nI (1 + i)) = some (.inl (G i h, nI (1 + i + 1))) ∧ s241L17 200 (nI (1 + i), rJ μ h) = some (.inl (nI (1 + i + 1), rJ μ (G i h))) := ⟨fun d => Classical.choose (rt d), fun d => Classical.choose_spec (rt d)⟩
  have c2 := cRow (b := s127L20 μ 2) GR 1 7 (fun i h hi => (hGR i hi h).1) (fun h => by
    unfold s127L20
    exact iteT (leI (m := 8) (i := 1 + 7) (by omega) (by omega)) rfl) (by omega)
  have d2 := rRow (μ := μ) (b := s241L17 200) GR 1 7 (fun i h hi => (hGR i hi h).2) (fun h => by
    unfold s241L17
    exact iteT (leI (m := 8) (i := 1 + 7) (by omega) (by omega)) rfl) (by omega)
  have tt : ∀ i, ∃ G : Int64 → Int64, i < 10 → ∀ h, s127L43 μ 2 (h, nI i) = some (.inl (G h, nI (i + 1))) ∧ s241L37 200 (nI i, rJ μ h) = some (.inl (nI (i + 1), rJ μ (G h))) := fun i => by
    by_cases hi : i < 10
    · have hl := hu.le1 hi
      by_cases ho : aT A i 0 = 1
      · obtain ⟨G, hG⟩ := dgT hS hi ho
        refine ⟨G, fun _ h => ⟨?_, ?_⟩⟩
        · unfold s127L43
          refine iteF (lenI (m := 10) (by omega) (by omega)) (iteT s8 (iteT sF (bindS (v := nI 1) (by rw [ClsL.p1 hK]; exact tun1 hC hi ho) (iteF (by decide) (bindS (hG h).1 ?_)))))
          unfold s127L43_61; rw [p1I]
        · unfold s241L37
          refine iteF (lenI (m := 10) (by omega) (by omega)) (iteT (s9 h) (bindS (v := nI 1) (by show s159 (rJ μ h) 200 (nI i) (nI 0) = _; rw [k159 (hMJ h) hi (by omega), ho]) (iteF (by decide) (bindS (hG h).2 ?_))))
          unfold s241L37_53; rw [p1I]
      · refine ⟨fun h => mix h (-1), fun _ h => ⟨?_, ?_⟩⟩
        · unfold s127L43
          refine iteF (lenI (m := 10) (by omega) (by omega)) (iteT s8 (iteT sF (bindS (v := nI 0) (by rw [ClsL.p1 hK, j17 hC hi hl]; simp [ho, bI]) (iteT rfl ?_))))
          unfold s127L43_61; rw [p1I]; show some (Sum.inl (Int64.ofNat 31 * h - Int64.ofNat 1, _)) = some (Sum.inl (mix h (-1), _)); rw [mix_m1]
        · unfold s241L37
          refine iteF (lenI (m := 10) (by omega) (by omega)) (iteT (s9 h) (bindS (v := nI (aT A i 0)) (by show s159 (rJ μ h) 200 (nI i) (nI 0) = _; rw [k159 (hMJ h) hi (by omega)]) (iteT (by rw [L_1, nI_eq (by omega) (by omega)]; exact ho) (bindS (k238 hM.1) ?_))))
          unfold s241L37_53; rw [p1I]
    · exact ⟨id, fun z => absurd z hi⟩
  obtain ⟨GT, hGT⟩ : ∃ G : Nat → Int64 → Int64, ∀ i, i < 10 → ∀ h, s127L43 μ 2 (h, nI i) = some (.inl (G i h, nI (i + 1))) ∧ s241L37 200 (nI i, rJ μ h) = some (.inl (nI (i + 1), rJ μ (G i h))) := ⟨fun d => Classical.choose (tt d), fun d => Classical.choose_spec (tt d)⟩
  have c3 := cRow (b := s127L43 μ 2) GT 0 10 (fun i h hi => by rw [Nat.zero_add]; exact (hGT i hi h).1) (fun h => by
    unfold s127L43
    exact iteT (leI (m := 10) (i := 0 + 10) (by omega) (by omega)) rfl) (by omega)
  have d3 := rRow (μ := μ) (b := s241L37 200) GT 0 10 (fun i h hi => by rw [Nat.zero_add]; exact (hGT i hi h).2) (fun h => by
    unfold s241L37
    exact iteT (leI (m := 10) (i := 0 + 10) (by omega) (by omega)) rfl) (by omega)
  refine ⟨rp GT 10 (rp GR 7 (rp (fun i h => mix h (f1 i)) 9 (Int64.ofNat 41))), rJ μ (rp GT 10 (rp GR 7 (rp (fun i h => mix h (f1 i)) 9 (Int64.ofNat 41)))), ?_, ?_, hI⟩
  · unfold s127
    refine bindS (c1 _) ?_
    refine bindS (c2 _) ?_
    exact bindS (c3 _) rfl
  · unfold s241
    refine iteT (by rw [RefL.s hM.1]) (bindS (v := rJ μ (Int64.ofNat 41)) rfl (bindS (d1 _) ?_))
    refine bindS (d2 _) ?_
    refine bindS (d3 _) ?_
    show (if (mS (rJ μ _) 200).1 = 9 then some (mJ (rJ μ _) 200 20, rJ μ _) else none) = _
    refine iteT (s9 _) ?_
    rw [mJ_UJ, if_pos ⟨rfl, rfl⟩]
end DG
