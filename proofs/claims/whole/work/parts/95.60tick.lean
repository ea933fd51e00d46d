/-! the tick: the reference's turns; video -/
section TG
variable {μ ν ν1 : mM} {A : Ab} {r t d n m k a1 R a b x0 : Nat} {p : PT}
theorem trn_meas (ha : a1 ≤ 10) : ∀ n, Fix A r d (trn A r d p a1 n) ∨ ∃ q, q < 10 ∧ q ≤ n ∧ n + 10 * (trn A r d p a1 n).1 ≤ 10 * p.1 + q ∧ ∀ j, n - q ≤ j → j < n → ¬ eff A r d (trn A r d p a1 n) ((a1 + j) % 10)
  | 0 => Or.inr ⟨0, by omega, by omega, by show 0 + 10 * p.1 ≤ _; omega, fun j x y => by omega⟩
  | n + 1 => by
    rcases trn_meas ha n with h | ⟨q, q1, q2, q3, q4⟩
    · refine Or.inl ?_
      have := trn_fix h 1
      rw [this]; exact h
    · by_cases ef : eff A r d (trn A r d p a1 n) ((a1 + n) % 10)
      · have v1 : (trn A r d p a1 (n + 1)).1 = (trn A r d p a1 n).1 - want A r d (trn A r d p a1 n) ((a1 + n) % 10) := by
          show (vis A r d _ _).1 = _
          unfold vis
          rw [if_pos ef]
        have wle := want_le (A := A) (r := r) (d := d) (p := trn A r d p a1 n) (t := (a1 + n) % 10)
        have wpos := ef.2
        exact Or.inr ⟨0, by omega, by omega, by rw [v1]; omega, fun j x y => by omega⟩
      · have v1 : trn A r d p a1 (n + 1) = trn A r d p a1 n := vis_fix ef
        have w : ∀ j, n - q ≤ j → j < n + 1 → ¬ eff A r d (trn A r d p a1 n) ((a1 + j) % 10) := fun j x y => by
          by_cases e : j = n
          · rw [e]; exact ef
          · exact q4 j x (by omega)
        rw [v1]
        by_cases z : q = 9
        · exact Or.inl (fix_ten (a1 := a1) (n := n - 9) (fun j x y => w j (by omega) (by omega)))
        · exact Or.inr ⟨q + 1, by omega, by omega, by omega, fun j x y => w j (by omega) y⟩
theorem trn_end (ha : a1 ≤ 10) (hp : p.1 ≤ 12) : Fix A r d (trn A r d p a1 130) := by
  rcases trn_meas (A := A) (r := r) (d := d) (p := p) ha 130 with h | ⟨q, q1, q2, q3, q4⟩
  · exact h
  · omega
theorem trn_skip {g : Nat} (h : ∀ j, j < g → usr A r d ((a1 + n + j) % 10) = false) : ∀ j, j ≤ g → trn A r d p a1 (n + j) = trn A r d p a1 n
  | 0, _ => rfl
  | j + 1, hj => by
    show vis A r d (trn A r d p a1 (n + j)) ((a1 + (n + j)) % 10) = _
    rw [trn_skip h j (by omega), vis_fix]
    rintro ⟨z, -⟩
    have := h j (by omega)
    rw [show a1 + (n + j) = a1 + n + j by omega, this] at z
    cases z
theorem cntU_z {u : Nat → Bool} {s : Nat} : ∀ g, (∀ j, j < g → u ((s + j) % 10) = false) → cntU u s g = 0
  | 0, _ => rfl
  | g + 1, h => by
    rw [cntU, cntU_z g (fun j hj => h j (by omega)), h g (by omega)]; rfl
theorem k215t (h : KR μ μ A r d x0 R p) (ht : WFt A) (hu : WFu A) (hR : R ≤ 12) (hr : r < 8) (hd : d < 2) (ha1 : a1 ≤ 10) (hl : p.2.2 = a1) : ∃ ν, mLoop (s215L59 200 (nI r) (nI d) (nI (cntU (usr A r d) 0 10))) 1000 (nI p.1, nI a1 - 1, 0, nI a1 - 1, μ) = some (.inl (nI (trn A r d p a1 130).2.2 - 1, ν)) ∧ KR μ ν A r d x0 R (trn A r d p a1 130) := by
  have many := cntU_le (u := usr A r d) (s := 0) 10
  have hp12 : p.1 ≤ 12 := by have := h.2.2.2.2.2.2.1; omega
  have fin := trn_end (A := A) (r := r) (d := d) ha1 hp12
  obtain ⟨o, e, ν, m, rfl, q1, q2⟩ := mLoop_inv0 (b := s215L59 200 (nI r) (nI d) (nI (cntU (usr A r d) 0 10))) (fun k st => ∃ ν n l, st = (nI (trn A r d p a1 n).1, nI (trn A r d p a1 n).2.2 - 1, nI (cntU (usr A r d) (a1 + (n - l)) l), nI (pnt a1 n) - 1, ν) ∧ l ≤ n ∧ cntU (usr A r d) (a1 + (n - l)) l ≤ 10 ∧ k + 10 * (trn A r d p a1 n).1 ≤ 10 * p.1 + cntU (usr A r d) (a1 + (n - l)) l ∧ (∀ j, n - l ≤ j → j < n → ¬ eff A r d (trn A r d p a1 n) ((a1 + j) % 10)) ∧ KR μ ν A r d x0 R (trn A r d p a1 n)) 131 (fun o => ∃ ν m, o = .inl (nI (trn A r d p a1 m).2.2 - 1, ν) ∧ Fix A r d (trn A r d p a1 m) ∧ KR μ ν A r d x0 R (trn A r d p a1 m)) (fun k st hk hJ => by
    obtain ⟨ν, n, l, rfl, l1, l2, l3, l4, c⟩ := hJ
    have hRf := c.1.1
    have pR := c.2.2.2.2.2.2.1
    by_cases z : (trn A r d p a1 n).1 = 0
    · refine Or.inr ⟨_, ?_, ν, n, rfl, fix_room z, c⟩
      unfold s215L59
      exact iteT (by show nI (trn A r d p a1 n).1 ≤ nI 0; rw [z]; decide) rfl
    · have r1 : ¬ nI (trn A r d p a1 n).1 ≤ 0 := by show ¬ nI _ ≤ nI 0; rw [nI_leI (by omega) (by omega)]; omega
      by_cases y : cntU (usr A r d) 0 10 ≤ cntU (usr A r d) (a1 + (n - l)) l
      · refine Or.inr ⟨_, ?_, ν, n, rfl, fix_users l1 l4 y, c⟩
        unfold s215L59
        exact iteF r1 (iteT (by show nI _ ≤ nI _; rw [nI_leI (by omega) (by omega)]; exact y) rfl)
      · obtain ⟨b1, b2⟩ := pnt_le (n := n) ha1
        obtain ⟨g, g1, g2, g3, g4⟩ := nxt_spec (u := usr A r d) (a := pnt a1 n) b1 (by omega)
        have em : ∀ j, (pnt a1 n + j) % 10 = (a1 + n + j) % 10 := fun j => by omega
        rw [em] at g2 g3
        obtain ⟨t, ht'⟩ : ∃ t, t = (a1 + n + g) % 10 := ⟨_, rfl⟩
        rw [← ht'] at g2 g3
        have t10 : t < 10 := by rw [ht']; exact Nat.mod_lt _ (by omega)
        have g5 : ∀ j, j < g → usr A r d ((a1 + n + j) % 10) = false := fun j hj => by rw [← em]; exact g4 j hj
        have sk := trn_skip (p := p) g5 g (Nat.le_refl _)
        have v0 : trn A r d p a1 (n + g + 1) = vis A r d (trn A r d p a1 n) t := by
          show vis A r d (trn A r d p a1 (n + g)) ((a1 + (n + g)) % 10) = _
          rw [sk, show a1 + (n + g) = a1 + n + g by omega, ← ht']
        have ho : aT A t 0 = 1 := by unfold usr us at g3; simp at g3; exact g3.1.1.1
        obtain ⟨o1, -⟩ := hu.o t10 ho
        obtain ⟨ν', e', c'⟩ := kvis (v5 := nI (trn A r d p a1 n).2.2 - 1) (v6 := nI (cntU (usr A r d) (a1 + (n - l)) l)) (v7 := 0) (p4 := nI (cntU (usr A r d) 0 10)) c ht hu hR hr t10 hd g3
        have body : s215L59 200 (nI r) (nI d) (nI (cntU (usr A r d) 0 10)) (nI (trn A r d p a1 n).1, nI (trn A r d p a1 n).2.2 - 1, nI (cntU (usr A r d) (a1 + (n - l)) l), nI (pnt a1 n) - 1, ν) = some (.inl (nI (vis A r d (trn A r d p a1 n) t).1, if eff A r d (trn A r d p a1 n) t then nI t else nI (trn A r d p a1 n).2.2 - 1, if eff A r d (trn A r d p a1 n) t then 0 else nI (cntU (usr A r d) (a1 + (n - l)) l) + 1, nI t, ν')) := by
          unfold s215L59
          refine iteF r1 (iteF (by show ¬ nI _ ≤ nI _; rw [nI_leI (by omega) (by omega)]; exact y) (iteT (by rw [RefL.s hRf]) (bindS (v := nI t) (by rw [← g2]; exact k213 c.1 ht hu hr hd b1 (by omega)) (bindS (v := nI (aT A t 1)) (k159 c.1 t10 (k := 1) (by omega)) ?_))))
          unfold wgt at e'
          by_cases w : aT A t 1 = 1
          · rw [if_pos w] at e'
            exact iteF (by rw [w]; decide) e'
          · rw [if_neg w] at e'
            exact iteT (by show ¬ nI _ = nI 1; rw [nI_eq (by omega) (by omega)]; exact w) e'
        have pn : nI t = nI (pnt a1 (n + g + 1)) - 1 := by
          rw [pnt_s, show a1 + (n + g) = a1 + n + g by omega, ← ht']
          have h10 : ∀ b : Fin 10, nI b.val = nI (b.val + 1) - 1 := by decide
          exact h10 ⟨t, t10⟩
        rw [← v0] at c' body
        by_cases ef : eff A r d (trn A r d p a1 n) t
        · rw [if_pos ef, if_pos ef] at body
          have wle := want_le (A := A) (r := r) (d := d) (p := trn A r d p a1 n) (t := t)
          have wpos := ef.2
          have v1 : trn A r d p a1 (n + g + 1) = ((trn A r d p a1 n).1 - want A r d (trn A r d p a1 n) t, sds A (trn A r d p a1 n).2.1 r t d (min (trn A r d p a1 n).1 (wgt A t)), t + 1) := by
            rw [v0]; unfold vis; rw [if_pos ef]
          refine Or.inl ⟨_, body, ν', n + g + 1, 0, ?_, by omega, by show 0 ≤ 10; omega, ?_, fun j x1 x2 => by omega, c'⟩
          · have : (trn A r d p a1 (n + g + 1)).2.2 = t + 1 := by rw [v1]
            rw [this]
            have h10 : ∀ b : Fin 10, nI b.val = nI (b.val + 1) - 1 := by decide
            rw [← h10 ⟨t, t10⟩, ← pn]; rfl
          · have : (trn A r d p a1 (n + g + 1)).1 = (trn A r d p a1 n).1 - want A r d (trn A r d p a1 n) t := by rw [v1]
            rw [this]
            show k + 1 + 10 * _ ≤ 10 * p.1 + 0
            omega
        · rw [if_neg ef, if_neg ef] at body
          have v1 : trn A r d p a1 (n + g + 1) = trn A r d p a1 n := by rw [v0]; exact vis_fix ef
          have cn : cntU (usr A r d) (a1 + (n + g + 1 - (l + (g + 1)))) (l + (g + 1)) = cntU (usr A r d) (a1 + (n - l)) l + 1 := by
            rw [show n + g + 1 - (l + (g + 1)) = n - l by omega, cntU_add, show a1 + (n - l) + l = a1 + n by omega, cntU, cntU_z g g5, ← ht', if_pos g3]
          refine Or.inl ⟨_, body, ν', n + g + 1, l + (g + 1), ?_, by omega, by rw [cn]; omega, by rw [cn, v1]; omega, fun j x1 x2 => ?_, c'⟩
          · rw [cn, ← pn, v1, show nI (cntU (usr A r d) (a1 + (n - l)) l) + 1 = nI (cntU (usr A r d) (a1 + (n - l)) l + 1) from nI_add _ 1]
          · rw [v1]
            by_cases w1 : j < n
            · exact l4 j (by omega) w1
            · by_cases w2 : j = n + g
              · rw [w2, show a1 + (n + g) = a1 + n + g by omega, ← ht']; exact ef
              · rintro ⟨x, -⟩
                have := g5 (j - n) (by omega)
                rw [show a1 + n + (j - n) = a1 + j by omega] at this
                rw [this] at x
                cases x) (fun st hJ => by
    obtain ⟨ν, n, l, rfl, l1, l2, l3, l4, c⟩ := hJ
    exfalso; omega) (s := (nI p.1, nI a1 - 1, 0, nI a1 - 1, μ)) ⟨μ, 0, 0, by show _ = (nI p.1, nI p.2.2 - 1, _); rw [hl]; rfl, by omega, by show 0 ≤ 10; omega, by show 0 + 10 * p.1 ≤ 10 * p.1 + 0; omega, fun j x1 x2 => by omega, h⟩ (n := 1000) (by omega)
  have un := trn_uniq q1 fin
  rw [un] at e q2
  exact ⟨ν, e, q2⟩
end TG
