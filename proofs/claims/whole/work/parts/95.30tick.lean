/-! the tick: by turns, the plain part -/
section TD
variable {A : Ab} {r t d n m k a1 : Nat}
/-- who takes turns over a link -/
def usr (A : Ab) (r d t : Nat) : Bool := us A t r d && !(aT A t 1 == 0)
/-- the room, what was sent, one more than the tunnel that sent last -/
abbrev PT : Type := Nat × SD × Nat
def want (A : Ab) (r d : Nat) (p : PT) (t : Nat) : Nat := amt A p.2.1 r t d (min p.1 (wgt A t))
abbrev eff (A : Ab) (r d : Nat) (p : PT) (t : Nat) : Prop := usr A r d t = true ∧ 0 < want A r d p t
/-- a turn -/
def vis (A : Ab) (r d : Nat) (p : PT) (t : Nat) : PT := if eff A r d p t then (p.1 - want A r d p t, sds A p.2.1 r t d (min p.1 (wgt A t)), t + 1) else p
/-- n turns, from tunnel a1 on -/
def trn (A : Ab) (r d : Nat) (p : PT) (a1 : Nat) : Nat → PT
  | 0 => p
  | n + 1 => vis A r d (trn A r d p a1 n) ((a1 + n) % 10)
def Fix (A : Ab) (r d : Nat) (p : PT) : Prop := ∀ t, t < 10 → ¬ eff A r d p t
theorem vis_fix {p : PT} (h : ¬ eff A r d p t) : vis A r d p t = p := by unfold vis; rw [if_neg h]
theorem trn_fix {p : PT} (h : Fix A r d (trn A r d p a1 n)) : ∀ j, trn A r d p a1 (n + j) = trn A r d p a1 n
  | 0 => rfl
  | j + 1 => by
    show vis A r d (trn A r d p a1 (n + j)) _ = _
    rw [trn_fix h j, vis_fix (h _ (Nat.mod_lt _ (by omega)))]
theorem trn_uniq {p : PT} (h1 : Fix A r d (trn A r d p a1 n)) (h2 : Fix A r d (trn A r d p a1 m)) : trn A r d p a1 n = trn A r d p a1 m := by
  by_cases h : n ≤ m
  · have := trn_fix h1 (m - n)
    rw [show n + (m - n) = m by omega] at this
    exact this.symm
  · have := trn_fix h2 (n - m)
    rw [show m + (n - m) = n by omega] at this
    exact this
theorem want_le {p : PT} : want A r d p t ≤ p.1 := Nat.le_trans amt_le (Nat.min_le_left _ _)
theorem fix_room {p : PT} (h : p.1 = 0) : Fix A r d p := by
  rintro t - ⟨-, z⟩
  have := want_le (A := A) (r := r) (d := d) (p := p) (t := t)
  omega
/-- ten turns without effect: none has one -/
theorem fix_ten {p : PT} (h : ∀ j, n ≤ j → j < n + 10 → ¬ eff A r d p ((a1 + j) % 10)) : Fix A r d p := by
  intro t ht
  have := h (n + (t + 10 * (a1 + n) - (a1 + n)) % 10) (by omega) (by omega)
  rw [show (a1 + (n + (t + 10 * (a1 + n) - (a1 + n)) % 10)) % 10 = t by omega] at this
  exact this
/-- the users among ten that follow each other -/
def cntU (u : Nat → Bool) (s : Nat) : Nat → Nat
  | 0 => 0
  | n + 1 => cntU u s n + (if u ((s + n) % 10) = true then 1 else 0)
theorem cntU_sh {u : Nat → Bool} {s : Nat} : ∀ n, cntU u s (n + 1) = (if u (s % 10) = true then 1 else 0) + cntU u (s + 1) n
  | 0 => by simp [cntU]
  | n + 1 => by
    rw [cntU, cntU_sh n, cntU, show s + 1 + n = s + (n + 1) by omega]; omega
theorem cntU_ten {u : Nat → Bool} : ∀ s, cntU u s 10 = cntU u 0 10
  | 0 => rfl
  | s + 1 => by
    have h1 := cntU_sh (u := u) (s := s) 10
    have h2 : cntU u s (10 + 1) = cntU u s 10 + (if u ((s + 10) % 10) = true then 1 else 0) := rfl
    rw [show (s + 10) % 10 = s % 10 by omega] at h2
    rw [← cntU_ten s]
    omega
theorem cntU_add {u : Nat → Bool} {s : Nat} : ∀ n m, cntU u s (n + m) = cntU u s n + cntU u (s + n) m
  | n, 0 => rfl
  | n, m + 1 => by
    show cntU u s (n + m) + (if u ((s + (n + m)) % 10) = true then 1 else 0) = cntU u s n + (cntU u (s + n) m + (if u ((s + n + m) % 10) = true then 1 else 0))
    rw [cntU_add n m, show s + n + m = s + (n + m) by omega]; omega
theorem cntU_0 {u : Nat → Bool} {s : Nat} : ∀ n, cntU u s n = 0 → ∀ j, j < n → u ((s + j) % 10) = false
  | 0, _, j, hj => by omega
  | n + 1, h, j, hj => by
    change cntU u s n + _ = 0 at h
    by_cases e : j = n
    · subst e
      cases q : u ((s + j) % 10)
      · rfl
      · rw [q] at h; simp at h
    · exact cntU_0 n (by omega) j (by omega)
theorem cntU_le {u : Nat → Bool} {s : Nat} : ∀ n, cntU u s n ≤ n
  | 0 => Nat.le_refl _
  | n + 1 => by
    have := cntU_le (u := u) (s := s) n
    rw [cntU]; split <;> omega
/-- as many users without effect as there are -/
theorem fix_users {p : PT} {l : Nat} (hl : l ≤ n) (h : ∀ j, n - l ≤ j → j < n → ¬ eff A r d p ((a1 + j) % 10)) (hc : cntU (usr A r d) 0 10 ≤ cntU (usr A r d) (a1 + (n - l)) l) : Fix A r d p := by
  by_cases e : 10 ≤ l
  · exact fix_ten (a1 := a1) (n := n - l) (fun j x y => h j x (by omega))
  · have h1 := cntU_ten (u := usr A r d) (a1 + (n - l))
    have h2 := cntU_add (u := usr A r d) (s := a1 + (n - l)) l (10 - l)
    rw [show l + (10 - l) = 10 by omega] at h2
    have h3 := cntU_0 (u := usr A r d) (s := a1 + (n - l) + l) (10 - l) (by omega)
    refine fix_ten (a1 := a1) (n := n - l) (fun j x y => ?_)
    by_cases q : j < n
    · exact h j x q
    · have := h3 (j - n) (by omega)
      rw [show (a1 + (n - l) + l + (j - n)) = a1 + j by omega] at this
      rintro ⟨z, -⟩
      rw [this] at z
      cases z
/-- the first user from s on, 10 if none is -/
def fst1 (u : Nat → Bool) (lo : Nat) : Nat → Nat
  | 0 => 10
  | k + 1 => if u (9 - k) = true ∧ lo ≤ 9 - k then 9 - k else fst1 u lo k
theorem fst1_spec {u : Nat → Bool} {lo : Nat} : ∀ k, k ≤ 10 → (fst1 u lo k = 10 ∧ ∀ j, 10 - k ≤ j → j < 10 → lo ≤ j → u j = false) ∨ (fst1 u lo k < 10 ∧ 10 - k ≤ fst1 u lo k ∧ lo ≤ fst1 u lo k ∧ u (fst1 u lo k) = true ∧ ∀ j, 10 - k ≤ j → lo ≤ j → j < fst1 u lo k → u j = false)
  | 0, _ => Or.inl ⟨rfl, fun j a b => by omega⟩
  | k + 1, hk => by
    rw [fst1]
    by_cases c : u (9 - k) = true ∧ lo ≤ 9 - k
    · rw [if_pos c]
      exact Or.inr ⟨by omega, by omega, c.2, c.1, fun j a b e => by omega⟩
    · rw [if_neg c]
      have c' : lo ≤ 9 - k → u (9 - k) = false := fun z => by
        cases q : u (9 - k)
        · rfl
        · exact absurd ⟨q, z⟩ c
      rcases fst1_spec (u := u) (lo := lo) k (by omega) with ⟨x1, x2⟩ | ⟨x1, x2, x3, x4, x5⟩
      · refine Or.inl ⟨x1, fun j a b e => ?_⟩
        by_cases z : j = 9 - k
        · rw [z]; exact c' (by omega)
        · exact x2 j (by omega) b e
      · refine Or.inr ⟨x1, by omega, x3, x4, fun j a b e => ?_⟩
        by_cases z : j = 9 - k
        · rw [z]; exact c' (by omega)
        · exact x5 j (by omega) b e
/-- whose turn is next -/
def nxt (u : Nat → Bool) (a : Nat) : Nat := if fst1 u a 10 = 10 then fst1 u 0 10 else fst1 u a 10
theorem nxt_spec {u : Nat → Bool} {a : Nat} (ha : a ≤ 10) (h : ¬ cntU u 0 10 = 0) : ∃ g, g < 10 ∧ nxt u a = (a + g) % 10 ∧ u ((a + g) % 10) = true ∧ ∀ j, j < g → u ((a + j) % 10) = false := by
  unfold nxt
  rcases fst1_spec (u := u) (lo := a) 10 (by omega) with ⟨x1, x2⟩ | ⟨x1, x2, x3, x4, x5⟩
  · rw [if_pos x1]
    rcases fst1_spec (u := u) (lo := 0) 10 (by omega) with ⟨y1, y2⟩ | ⟨y1, y2, y3, y4, y5⟩
    · exfalso
      apply h
      have : ∀ n, n ≤ 10 → cntU u 0 n = 0 := by
        intro n
        induction n with
        | zero => intro _; rfl
        | succ n ih =>
          intro hn
          rw [cntU, ih (by omega), if_neg]
          rw [show (0 + n) % 10 = n by omega, y2 n (by omega) (by omega) (by omega)]; decide
      exact this 10 (by omega)
    · have lt : fst1 u 0 10 < a := by
        by_cases q : fst1 u 0 10 < a
        · exact q
        · have := x2 (fst1 u 0 10) (by omega) y1 (by omega)
          rw [this] at y4; cases y4
      refine ⟨10 - a + fst1 u 0 10, by omega, by omega, ?_, fun j hj => ?_⟩
      · rw [show (a + (10 - a + fst1 u 0 10)) % 10 = fst1 u 0 10 by omega]; exact y4
      · by_cases q : a + j < 10
        · rw [show (a + j) % 10 = a + j by omega]; exact x2 _ (by omega) q (by omega)
        · rw [show (a + j) % 10 = a + j - 10 by omega]; exact y5 _ (by omega) (by omega) (by omega)
  · rw [if_neg (by omega)]
    refine ⟨fst1 u a 10 - a, by omega, by omega, ?_, fun j hj => ?_⟩
    · rw [show (a + (fst1 u a 10 - a)) % 10 = fst1 u a 10 by omega]; exact x4
    · rw [show (a + j) % 10 = a + j by omega]; exact x5 _ (by omega) (by omega) (by omega)
end TD
