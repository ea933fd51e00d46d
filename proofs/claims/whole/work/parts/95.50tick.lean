/-! the tick: by turns, the reference -/
section TF
variable {μ ν ν1 : mM} {A : Ab} {r t d n m k a1 R a b x0 : Nat} {p : PT}
theorem usr_k (hM : RS μ A) (ht : WFt A) (hu : WFu A) (hr : r < 8) (htt : t < 10) (hd : d < 2) {α : Type} {f g : Option α} : ((s162 μ 200 (nI t) (nI r) (nI d)).bind fun q2 => if q2 = 0 then f else ((s159 μ 200 (nI t) 1).bind fun q4 => if q4 ≤ 0 then f else g)) = if usr A r d t = true then g else f := by
  refine bindS (k162 hM ht hu hr htt (by omega)) ?_
  by_cases u : us A t r d = true
  · obtain ⟨-, -, -, -, -, ho, -⟩ := us_hx ht hu htt hd u
    obtain ⟨o1, -⟩ := hu.o htt ho
    refine iteF (by rw [u]; decide) (bindS (k159 hM htt (k := 1) (by omega)) ?_)
    by_cases k : aT A t 1 = 0
    · have e : ¬ usr A r d t = true := by unfold usr; simp [k]
      rw [if_neg e]
      exact iteT (by rw [k]; decide) rfl
    · have e : usr A r d t = true := by unfold usr; simp [k, u]
      rw [if_pos e]
      exact iteF (by show ¬ nI (aT A t 1) ≤ nI 0; rw [nI_leI (by omega) (by omega)]; omega) rfl
  · have e : ¬ usr A r d t = true := by unfold usr; simp [u]
    rw [if_neg e]
    exact iteT (by rw [show us A t r d = false by simpa using u]; rfl) rfl
theorem k214 (hM : RS μ A) (ht : WFt A) (hu : WFu A) (hr : r < 8) (hd : d < 2) : s214 μ 200 (nI r) (nI d) = some (nI (cntU (usr A r d) 0 10)) := by
  have hR := hM.1
  have e := mLoop_seq0 (b := s214L4 μ 200 (nI r) (nI d)) (fun i => (nI (cntU (usr A r d) 0 i), nI i)) 10 (o := .inl (nI (cntU (usr A r d) 0 10))) (fun i hi => by
    unfold s214L4
    refine iteF (by show ¬ nI 10 ≤ nI i; rw [nI_leI (by omega) (by omega)]; omega) (iteT (by rw [RefL.s hR]) ((usr_k hM ht hu hr hi hd).trans ?_))
    rw [show cntU (usr A r d) 0 (i + 1) = cntU (usr A r d) 0 i + (if usr A r d i = true then 1 else 0) by rw [cntU, show (0 + i) % 10 = i by omega]]
    by_cases u : usr A r d i = true
    · rw [if_pos u, if_pos u]
      show some (Sum.inl (nI _ + nI 1, nI i + nI 1)) = _
      rw [nI_add, nI_add]
    · rw [if_neg u, if_neg u]
      show some (Sum.inl (nI _ + nI 0, nI i + nI 1)) = _
      rw [nI_add, nI_add]) (by
    unfold s214L4
    exact iteT (show nI 10 ≤ nI 10 by decide) rfl) (n := 1000) (by omega)
  unfold s214
  exact bindS e rfl
def eI (x : Nat) : Int32 := if x = 10 then -10 else nI x
theorem eI_10 : ∀ x : Fin 11, (eI x.val = -10) ↔ x.val = 10 := by decide
theorem ix_le : ∀ j : Fin 10, ∀ b : Fin 11, (nI j.val ≤ nI b.val - 1) ↔ j.val < b.val := by decide
theorem ix_d : ∀ k : Fin 10, nI (10 - k.val) - 1 = nI (9 - k.val) ∧ nI (9 - k.val) + (-1) = nI (10 - (k.val + 1)) - 1 := by decide
theorem fst1_le {u : Nat → Bool} : ∀ k, fst1 u b k ≤ 10
  | 0 => Nat.le_refl _
  | k + 1 => by
    have := fst1_le (u := u) k
    rw [fst1]; split <;> omega
theorem k213 (hM : RS μ A) (ht : WFt A) (hu : WFu A) (hr : r < 8) (hd : d < 2) (hb : b ≤ 10) (hc : ¬ cntU (usr A r d) 0 10 = 0) : s213 μ 200 (nI r) (nI d) (nI b - 1) = some (nI (nxt (usr A r d) b)) := by
  have hR := hM.1
  have e := mLoop_seq0 (b := s213L6 μ 200 (nI r) (nI d) (nI b - 1)) (fun k => (eI (fst1 (usr A r d) b k), eI (fst1 (usr A r d) 0 k), nI (10 - k) - 1)) 10 (o := .inl (eI (fst1 (usr A r d) b 10), eI (fst1 (usr A r d) 0 10))) (fun k hk => by
    obtain ⟨i1, i2⟩ := ix_d ⟨k, hk⟩
    have i3 := ix_le ⟨9 - k, by omega⟩ ⟨b, by omega⟩
    simp only at i1 i2 i3
    simp only [i1]
    unfold s213L6
    refine iteF (by show ¬ nI (9 - k) < nI 0; rw [nI_ltI (by omega) (by omega)]; omega) (iteT (by rw [RefL.s hR]) ((usr_k hM ht hu hr (show 9 - k < 10 by omega) hd).trans ?_))
    rw [fst1, fst1]
    have e9 : ∀ x, x < 10 → eI x = nI x := fun x hx => by unfold eI; rw [if_neg (by omega)]
    by_cases u : usr A r d (9 - k) = true
    · rw [if_pos u, if_pos (show usr A r d (9 - k) = true ∧ 0 ≤ 9 - k from ⟨u, by omega⟩)]
      by_cases c : 9 - k < b
      · rw [if_neg (show ¬ (usr A r d (9 - k) = true ∧ b ≤ 9 - k) from fun z => by omega)]
        refine iteT (i3.mpr c) ?_
        show some (Sum.inl (_, nI (9 - k), nI (9 - k) + (-1))) = _
        rw [i2, e9 (9 - k) (by omega)]
      · rw [if_pos (show usr A r d (9 - k) = true ∧ b ≤ 9 - k from ⟨u, by omega⟩)]
        refine iteF (fun z => c (i3.mp z)) ?_
        show some (Sum.inl (nI (9 - k), nI (9 - k), nI (9 - k) + (-1))) = _
        rw [i2, e9 (9 - k) (by omega)]
    · rw [if_neg u, if_neg (show ¬ (usr A r d (9 - k) = true ∧ b ≤ 9 - k) from fun z => u z.1), if_neg (show ¬ (usr A r d (9 - k) = true ∧ 0 ≤ 9 - k) from fun z => u z.1)]
      show some (Sum.inl (_, _, nI (9 - k) + (-1))) = _
      rw [i2]) (by
    unfold s213L6
    exact iteT (show nI (10 - 10) - 1 < 0 by decide) rfl) (n := 1000) (by omega)
  unfold s213
  refine bindS (v := .inl (eI (fst1 (usr A r d) b 10), eI (fst1 (usr A r d) 0 10))) ?_ ?_
  · exact e
  · have l1 := fst1_le (u := usr A r d) (b := b) 10
    have l2 := fst1_le (u := usr A r d) (b := 0) 10
    have q1 := eI_10 ⟨fst1 (usr A r d) b 10, by omega⟩
    simp only at q1
    obtain ⟨g, hg, n1, n2, n3⟩ := nxt_spec (u := usr A r d) hb hc
    have n4 : nxt (usr A r d) b < 10 := by rw [n1]; exact Nat.mod_lt _ (by omega)
    unfold nxt at n4 ⊢
    by_cases c : fst1 (usr A r d) b 10 = 10
    · rw [if_pos c] at n4 ⊢
      refine iteF (fun z => z (q1.mpr c)) ?_
      show some (eI _) = _
      unfold eI
      rw [if_neg (by omega)]
    · rw [if_neg c] at n4 ⊢
      refine iteT (fun z => c (q1.mp z)) ?_
      show some (eI _) = _
      unfold eI
      rw [if_neg (by omega)]
theorem SRf_0 {sd : SD} {w : Nat} (h : amt A sd r t d w = 0) (hX : SRf μ (sds A sd r t d w)) : SRf μ sd := by rw [sds_0 h] at hX; exact hX
/-- the reference over a link: what stands before a turn -/
def KR (μ0 μ : mM) (A : Ab) (r d x0 R : Nat) (p : PT) : Prop := RS μ A ∧ SRf μ p.2.1 ∧ mI μ 214 (2 * r + d) = nI (x0 + (R - p.1)) ∧ (∀ j, ¬ j = 2 * r + d → mI μ 214 j = mI μ0 214 j) ∧ Fr 213 215 μ0 μ ∧ SO A p.2.1 ∧ p.1 ≤ R ∧ p.2.2 ≤ 10
theorem kvis {μ0 : mM} {v5 v6 : Int32} (h : KR μ0 ν A r d x0 R p) (ht : WFt A) (hu : WFu A) (hR : R ≤ 12) (hr : r < 8) (htt : t < 10) (hd : d < 2) (u : usr A r d t = true) {v7 : Int32} {p4 : Int32} : ∃ ν', s215L59_84 200 (nI r) (nI d) p4 ν (nI p.1) v5 v6 (nI t) (nI (wgt A t)) (nI p.1) (nI d) (nI r) (nI t) 200 = some (.inl (nI (vis A r d p t).1, if eff A r d p t then nI t else v5, if eff A r d p t then 0 else v6 + 1, nI t, ν')) ∧ KR μ0 ν' A r d x0 R (vis A r d p t) := by
  obtain ⟨hM, hX, hv, hj, hf, hs, hp, hl⟩ := h
  have hRf := hM.1
  have hus : us A t r d = true := by unfold usr at u; simp at u; exact u.1
  obtain ⟨u1, u2, u3, u4, -⟩ := us_hx ht hu htt hd hus
  have wl := wgt_le (A := A) (t := t)
  have e := k212 (w := min p.1 (wgt A t)) hM ht hu hs hX hr htt hd hus (by omega) hv
  have wle := want_le (A := A) (r := r) (d := d) (p := p) (t := t)
  have wdf : want A r d p t = amt A p.2.1 r t d (min p.1 (wgt A t)) := rfl
  rw [← wdf] at e
  obtain ⟨ν1, hν⟩ : ∃ ν1, ν1 = mUI (mUI ν 213 (8 * t + 4 * d + hx A t r d) (nI (p.2.1 t d (hx A t r d) + want A r d p t))) 214 (2 * r + d) (nI (x0 + (R - p.1) + want A r d p t)) := ⟨_, rfl⟩
  rw [← hν] at e
  have f1 : Fr 213 215 ν ν1 := by rw [hν]; exact (Fr_UI ν (by omega) (by omega) _ _).trans (Fr_UI _ (by omega) (by omega) _ _)
  have hM1 : RS ν1 A := hM.fr f1 (by omega)
  have hX1 : SRf ν1 (sds A p.2.1 r t d (min p.1 (wgt A t))) := by rw [hν]; exact SRf_s hX htt hd (by omega)
  have hv1 : mI ν1 214 (2 * r + d) = nI (x0 + (R - p.1) + want A r d p t) := by rw [hν, mI_UI, if_pos ⟨rfl, rfl⟩]
  have hj1 : ∀ j, ¬ j = 2 * r + d → mI ν1 214 j = mI μ0 214 j := fun j z => by rw [hν, mI_UI, if_neg (fun y => z y.2), mI_UI, if_neg (by omega)]; exact hj j z
  have so := SO_s (w := min p.1 (wgt A t)) hs ht hu htt hd hus
  have sub : nI p.1 - nI (want A r d p t) = nI (p.1 - want A r d p t) := nI_sub wle
  have pre : ∀ q, (if nI (want A r d p t) ≤ 0 then (s215L59_98 200 (nI r) (nI d) p4 ν1 (nI p.1 - nI (want A r d p t)) v5 (nI t) (nI (want A r d p t)) (v6 + 1)) else (s215L59_98 200 (nI r) (nI d) p4 ν1 (nI p.1 - nI (want A r d p t)) v5 (nI t) (nI (want A r d p t)) 0)) = q → s215L59_84 200 (nI r) (nI d) p4 ν (nI p.1) v5 v6 (nI t) (nI (wgt A t)) (nI p.1) (nI d) (nI r) (nI t) 200 = q := fun q hq => by
    unfold s215L59_84
    exact bindS (v := nI (min p.1 (wgt A t))) (k145 (by omega) (by omega)) (iteT (by rw [RefL.s hRf]) (bindS e hq))
  by_cases z : 0 < want A r d p t
  · have ef : eff A r d p t := ⟨u, z⟩
    have zn : ¬ nI (want A r d p t) ≤ 0 := by show ¬ nI _ ≤ nI 0; rw [nI_leI (by omega) (by omega)]; omega
    have v1 : vis A r d p t = (p.1 - want A r d p t, sds A p.2.1 r t d (min p.1 (wgt A t)), t + 1) := by unfold vis; rw [if_pos ef]
    rw [v1, if_pos ef, if_pos ef]
    refine ⟨ν1, pre _ ?_, hM1, hX1, ?_, hj1, hf.trans f1, so, ?_, ?_⟩
    · refine iteF zn ?_
      unfold s215L59_98
      refine iteF zn ?_
      show some (Sum.inl (nI p.1 - nI _, _)) = _
      rw [sub]
    · rw [hv1]; congr 1
      show _ = x0 + (R - (p.1 - want A r d p t))
      omega
    · show p.1 - want A r d p t ≤ R
      omega
    · show t + 1 ≤ 10
      omega
  · have ne : ¬ eff A r d p t := fun y => z y.2
    have w0 : want A r d p t = 0 := by omega
    have zn : nI (want A r d p t) ≤ 0 := by rw [w0]; decide
    rw [vis_fix ne, if_neg ne, if_neg ne]
    refine ⟨ν1, pre _ ?_, hM1, SRf_0 (by rw [← wdf]; exact w0) hX1, by rw [hv1, w0]; rfl, hj1, hf.trans f1, hs, hp, hl⟩
    refine iteT zn ?_
    unfold s215L59_98
    refine iteT zn ?_
    show some (Sum.inl (nI p.1 - nI _, _)) = _
    rw [sub, w0]; rfl
end TF
