/-! locals, checks of the code, the soundness predicate -/
def mLl (bs ba : Nat) : Nat → List Value → List (Nat × Value)
  | _, [] => []
  | i, v :: r => match v with
    | .retAddr _ => mLl bs ba (i + 1) r
    | v => (i, mTr bs ba v) :: mLl bs ba (i + 1) r
def mIsV : Value → Bool
  | .retAddr _ => false
  | _ => true
theorem mLl_mem {bs ba : Nat} : ∀ (L : List Value) (i : Nat) (q : Nat × Value), q ∈ mLl bs ba i L ↔ ∃ j, q.1 = i + j ∧ j < L.length ∧ mIsV (mNth L j) = true ∧ q.2 = mTr bs ba (mNth L j)
  | [], i, q => by simp [mLl]
  | v :: r, i, q => by
    have ih := mLl_mem (bs := bs) (ba := ba) r (i + 1) q
    have step : (∃ j, q.1 = i + j ∧ j < (v :: r).length ∧ mIsV (mNth (v :: r) j) = true ∧ q.2 = mTr bs ba (mNth (v :: r) j)) ↔ ((q.1 = i ∧ mIsV v = true ∧ q.2 = mTr bs ba v) ∨ ∃ j, q.1 = i + 1 + j ∧ j < r.length ∧ mIsV (mNth r j) = true ∧ q.2 = mTr bs ba (mNth r j)) := by
      constructor
      · rintro ⟨j, h1, h2, h3, h4⟩
        cases j with
        | zero => exact Or.inl ⟨h1, h3, h4⟩
        | succ j => exact Or.inr ⟨j, by omega, by simpa using h2, h3, h4⟩
      · rintro (⟨h1, h2, h3⟩ | ⟨j, h1, h2, h3, h4⟩)
        · exact ⟨0, h1, by simp, h2, h3⟩
        · exact ⟨j + 1, by omega, by simpa using h2, h3, h4⟩
    rw [step, ← ih]
    cases v <;> simp only [mLl, List.mem_cons, mIsV] <;> simp [Prod.ext_iff, mTr]
def mLv (bs ba n : Nat) (L : List Value) (ls : Array Slot) : Prop := L.length = n ∧ lv_has ls n (mLl bs ba 0 L)
theorem lv_weak {ls : Array Slot} {n : Nat} {l l' : List (Nat × Value)} (h : lv_has ls n l) (hs : ∀ q ∈ l', q ∈ l) : lv_has ls n l' := ⟨h.1, h.2.1, fun q hq => h.2.2 q (hs q hq)⟩
theorem mNth_lt : ∀ {L : List Value} {k : Nat}, mIsV (mNth L k) = true → k < L.length
  | [], k, h => by simp [mNth, mIsV] at h
  | _ :: _, 0, _ => by simp
  | _ :: r, k + 1, h => by have := mNth_lt (L := r) (k := k) h; simp; omega
theorem mLv_in {bs ba n : Nat} {L : List Value} {k : Nat} (hv : mIsV (mNth L k) = true) : (k, mTr bs ba (mNth L k)) ∈ mLl bs ba 0 L := (mLl_mem L 0 _).mpr ⟨k, by simp, mNth_lt hv, hv, rfl⟩
theorem mLv_at {bs ba n : Nat} {L : List Value} {ls : Array Slot} (h : mLv bs ba n L ls) {k : Nat} {v : Value} (hv : mNth L k = v) (hi : mIsV v = true) : ls[k]? = some (.val (mTr bs ba v)) := by
  subst hv
  exact h.2.2.2 (k, mTr bs ba (mNth L k)) (mLv_in (n := n) hi)
theorem mLv_place {bs ba n : Nat} {L : List Value} {k : Nat} {v : Value} (hv : mNth L k = v) (hi : mIsV v = true) : ∃ i : Nat, (mLl bs ba 0 L)[i]? = some (k, mTr bs ba v) := by
  subst hv
  exact List.getElem?_of_mem (mLv_in (n := n) hi)
theorem mNth_set : ∀ (L : List Value) (k j : Nat) (v : Value), mNth (L.set k v) j = if j = k ∧ k < L.length then v else mNth L j
  | [], k, j, v => by simp [mNth]
  | a :: r, 0, 0, v => by simp [mNth]
  | a :: r, 0, j + 1, v => by simp [mNth]
  | a :: r, k + 1, 0, v => by simp [mNth]
  | a :: r, k + 1, j + 1, v => by
    have := mNth_set r k j v
    simp only [List.set_cons_succ, mNth, this, List.length_cons, Nat.add_right_cancel_iff, Nat.add_lt_add_iff_right]
theorem mTr_cat (bs ba : Nat) (v : Value) : (mTr bs ba v).category = v.category := by
  cases v <;> simp only [mTr] <;> try rfl
  split <;> rfl
theorem mNotL_cat {v : Value} (h : mNotL v = true) : v.category = 1 := by cases v <;> simp_all [mNotL, Value.category]
theorem mNotL_cat2 {v : Value} (h : ¬ mNotL v = true) : v.category = 2 := by cases v <;> simp_all [mNotL, Value.category]
theorem mLv_st1 {bs ba n : Nat} {L L' : List Value} {ls' : Array Slot} {k : Nat} {v : Value} (hn : L.length = n) (h : mSt1 L k v = some L') (hl : lv_has ls' n ((k, mTr bs ba v) :: (mLl bs ba 0 L).filter (fun q => !(q.1 == k) && !(q.1 + 1 == k && q.2.category == 2)))) : mLv bs ba n L' ls' := by
  unfold mSt1 at h
  split at h
  · rename_i hk
    cases h
    refine ⟨by simpa using hn, lv_weak hl fun q hq => ?_⟩
    obtain ⟨j, h1, h2, h3, h4⟩ := (mLl_mem _ 0 q).mp hq
    simp only [Nat.zero_add] at h1
    rw [mNth_set] at h3 h4
    by_cases hj : j = k
    · subst hj
      rw [if_pos ⟨rfl, hk.1⟩] at h4
      exact List.mem_cons.mpr (Or.inl (Prod.ext h1 h4))
    · rw [if_neg (fun z => hj z.1)] at h3 h4
      refine List.mem_cons_of_mem _ (List.mem_filter.mpr ⟨(mLl_mem L 0 q).mpr ⟨j, by omega, mNth_lt h3, h3, h4⟩, ?_⟩)
      rw [h1, h4, mTr_cat]
      by_cases hj2 : j + 1 = k
      · have : k - 1 = j := by omega
        have hc : (mNth L j).category = 1 := mNotL_cat (by rw [← this]; exact hk.2)
        simp [hj, hc]
      · simp [hj, hj2]
  · cases h
theorem mLv_st2 {bs ba n : Nat} {L L' : List Value} {ls' : Array Slot} {k : Nat} {v : Value} (hn : L.length = n) (h : mSt2 L k v = some L') (hl : lv_has ls' n ((k, mTr bs ba v) :: (mLl bs ba 0 L).filter (fun q => !(q.1 == k) && (!(q.1 == k + 1) && !(q.1 + 1 == k && q.2.category == 2))))) : mLv bs ba n L' ls' := by
  unfold mSt2 at h
  split at h
  · rename_i hk
    cases h
    refine ⟨by simpa using hn, lv_weak hl fun q hq => ?_⟩
    obtain ⟨j, h1, h2, h3, h4⟩ := (mLl_mem _ 0 q).mp hq
    simp only [Nat.zero_add] at h1
    rw [mNth_set, mNth_set] at h3 h4
    by_cases hj1 : j = k + 1
    · rw [if_pos ⟨hj1, by simpa using hk.1⟩] at h3
      simp [mIsV] at h3
    · rw [if_neg (fun z => hj1 z.1)] at h3 h4
      by_cases hj : j = k
      · subst hj
        rw [if_pos ⟨rfl, by omega⟩] at h4
        exact List.mem_cons.mpr (Or.inl (Prod.ext h1 h4))
      · rw [if_neg (fun z => hj z.1)] at h3 h4
        refine List.mem_cons_of_mem _ (List.mem_filter.mpr ⟨(mLl_mem L 0 q).mpr ⟨j, by omega, mNth_lt h3, h3, h4⟩, ?_⟩)
        rw [h1, h4, mTr_cat]
        by_cases hj2 : j + 1 = k
        · have : k - 1 = j := by omega
          have hc : (mNth L j).category = 1 := mNotL_cat (by rw [← this]; exact hk.2)
          simp [hj, hj1, hc]
        · simp [hj, hj1, hj2]
  · cases h
theorem mNth_app : ∀ (A B : List Value) (j : Nat), mNth (A ++ B) j = if j < A.length then mNth A j else mNth B (j - A.length)
  | [], B, j => by simp
  | a :: r, B, 0 => by simp [mNth]
  | a :: r, B, j + 1 => by
    have := mNth_app r B j
    simp only [List.cons_append, mNth, this, List.length_cons, Nat.add_lt_add_iff_right, Nat.add_sub_add_right]
theorem mNth_repl (n j : Nat) : mNth (List.replicate n (.retAddr 0)) j = .retAddr 0 := by
  induction n generalizing j with
  | zero => rfl
  | succ n ih => cases j with
    | zero => rfl
    | succ j => exact ih j
theorem mArgs_len (bs ba : Nat) : ∀ as : List Value, (lg_sl (as.map (mTr bs ba))).length = (mArgs as).length
  | [] => rfl
  | v :: vs => by
    have ih := mArgs_len bs ba vs
    simp only [lg_sl, List.map_cons, List.flatMap_cons, List.length_append] at ih ⊢
    rw [ih]
    rw [show mArgs (v :: vs) = if mNotL v = true then v :: mArgs vs else v :: .retAddr 0 :: mArgs vs from rfl]
    by_cases h : mNotL v = true
    · rw [if_pos h, if_neg (by rw [mTr_cat, mNotL_cat h]; decide)]
      simp only [List.length_cons, List.length_nil]
      omega
    · rw [if_neg h, if_pos (by rw [mTr_cat, mNotL_cat2 h])]
      simp only [List.length_cons, List.length_nil]
      omega
theorem mArgs_in (bs ba : Nat) : ∀ (as : List Value) (i : Nat) (q : Nat × Value), q ∈ mLl bs ba i (mArgs as) → q ∈ lv_args i (as.map (mTr bs ba))
  | [], i, q, h => by simp [mArgs, mLl] at h
  | v :: vs, i, q, h => by
    unfold mArgs at h
    simp only [List.map_cons, lv_args, List.mem_cons]
    by_cases hv : mNotL v = true
    · rw [if_pos hv] at h
      rw [if_neg (by rw [mTr_cat, mNotL_cat hv]; decide)]
      have h2 : q = (i, mTr bs ba v) ∨ q ∈ mLl bs ba (i + 1) (mArgs vs) := by
        cases v <;> simp only [mLl, List.mem_cons] at h <;> first | exact h | exact Or.inr h
      rcases h2 with h2 | h2
      · exact Or.inl h2
      · exact Or.inr (mArgs_in bs ba vs (i + 1) q h2)
    · rw [if_neg hv] at h
      rw [if_pos (by rw [mTr_cat, mNotL_cat2 hv])]
      have h2 : q = (i, mTr bs ba v) ∨ q ∈ mLl bs ba (i + 1 + 1) (mArgs vs) := by
        cases v <;> simp only [mLl, List.mem_cons] at h <;> first | exact h | exact Or.inr h
      rcases h2 with h2 | h2
      · exact Or.inl h2
      · exact Or.inr (mArgs_in bs ba vs (i + 2) q h2)
theorem mLv_entry {bs ba n : Nat} {as : List Value} (h : (mArgs as).length ≤ n) : mLv bs ba n (mLoc n as) ((lg_sl (as.map (mTr bs ba)) ++ List.replicate (n - (lg_sl (as.map (mTr bs ba))).length) Slot.unset).toArray) := by
  refine ⟨by unfold mLoc; simp; omega, lv_weak (lv_entry (as.map (mTr bs ba)) (n := n) (by rw [mArgs_len]; exact h)) fun q hq => ?_⟩
  refine mArgs_in bs ba as 0 q ?_
  obtain ⟨j, h1, h2, h3, h4⟩ := (mLl_mem _ 0 q).mp hq
  unfold mLoc at h3 h4
  rw [mNth_app] at h3 h4
  by_cases hj : j < (mArgs as).length
  · rw [if_pos hj] at h3 h4
    exact (mLl_mem _ 0 q).mpr ⟨j, h1, hj, h3, h4⟩
  · rw [if_neg hj, mNth_repl] at h3
    simp [mIsV] at h3
