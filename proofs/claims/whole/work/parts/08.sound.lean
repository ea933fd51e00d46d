/-! calls, returns, and the soundness of the mini machine -/
theorem mKn_warm {D : va_G} {cy : Nat → ClassId} {scr : Cell} {s U : State} (hW : s.WarmedH U.vm) (h : mKn D cy scr s) : mKn D cy scr U :=
  ⟨va_K.moved hW.alike h.1, fun own i y hm => va_Nw.warmM hW (h.2.1 own i y hm), fun C hm => va_AO.moved hW.alike (h.2.2.1 C hm), State.isArrayOf_alike hW.alike h.2.2.2.1, h.2.2.2.2⟩
theorem mKn_same {D : va_G} {cy : Nat → ClassId} {scr : Cell} {s U : State} (hV : s.vm = U.vm) (h : mKn D cy scr s) : mKn D cy scr U := by
  have ha : s.vm.Alike U.vm := by rw [hV]; exact Vm.Alike.refl _
  exact ⟨va_K.moved ha h.1, fun own i y hm => va_Nw.same rfl hV (h.2.1 own i y hm), fun C hm => va_AO.moved ha (h.2.2.1 C hm), State.isArrayOf_alike ha h.2.2.2.1, h.2.2.2.2⟩
def mRetOk (i : Instr) (rt : Option FieldType) : Option Value → Prop
  | none => i = .return_ ∧ rt = none
  | some (.int x) => i = .ireturn ∧ (rt = some .int ∨ (rt = some .boolean ∧ (x = 0 ∨ x = 1)))
  | some (.long _) => i = .lreturn ∧ rt = some .long
  | some (.float _) => i = .freturn ∧ rt = some .float
  | some (.ref _) => i = .areturn ∧ ∃ C, rt = some (.object C)
  | _ => False
theorem mX_ret {G : Nat → mRec} {y : Nat} {is : List mIns} {L st : List Value} {μ : mM} {aux : List Nat} {i : Instr} {v : Option Value} (h : mX G y is L st μ aux i = some (.inr (.inr v))) : st = v.toList ∧ mRetOk i (rT (G y)) v := by
  cases i
  case ireturn =>
    simp only [mX] at h
    split at h
    · split at h
      · rename_i hc
        simp only [Option.some.injEq, Sum.inr.injEq] at h
        subst h
        exact ⟨rfl, rfl, hc⟩
      · cases h
    · cases h
  case lreturn =>
    simp only [mX] at h
    split at h
    · split at h
      · rename_i hc
        simp only [Option.some.injEq, Sum.inr.injEq] at h
        subst h
        exact ⟨rfl, rfl, hc⟩
      · cases h
    · cases h
  case freturn =>
    simp only [mX] at h
    split at h
    · split at h
      · rename_i hc
        simp only [Option.some.injEq, Sum.inr.injEq] at h
        subst h
        exact ⟨rfl, rfl, hc⟩
      · cases h
    · cases h
  case return_ =>
    simp only [mX] at h
    split at h
    · split at h
      · rename_i hc
        simp only [Option.some.injEq, Sum.inr.injEq] at h
        subst h
        exact ⟨rfl, rfl, hc⟩
      · cases h
    · cases h
  case areturn =>
    simp only [mX] at h
    split at h
    · rename_i C hc
      simp only [Option.some.injEq, Sum.inr.injEq] at h
      subst h
      exact ⟨rfl, rfl, C, hc⟩
    · cases h
  case invokestatic idx =>
    simp only [mX] at h
    split at h
    · split at h
      · split at h
        · simp [mOk1] at h
        · cases h
      · cases h
    simp only [mCall] at h
    split at h
    · rcases st with _ | ⟨v, st⟩
      · simp at h
      · cases v <;> simp at h
    · split at h
      · split at h
        · split at h <;> cases h
        · split at h
          · split at h <;> cases h
          · cases h
      · cases h
    · cases h
  case invokevirtual idx =>
    simp only [mX, mCall] at h
    split at h
    · rcases st with _ | ⟨v, st⟩
      · simp at h
      · cases v <;> simp at h
    · split at h
      · split at h
        · split at h <;> cases h
        · split at h
          · split at h <;> cases h
          · cases h
      · cases h
    · cases h
  case invokespecial idx =>
    simp only [mX, mCall] at h
    split at h
    · rcases st with _ | ⟨v, st⟩
      · simp at h
      · cases v <;> simp [mOk1] at h
    · split at h
      · split at h
        · split at h <;> cases h
        · split at h
          · split at h <;> cases h
          · cases h
      · cases h
    · cases h
  all_goals exfalso
  all_goals (simp only [mX, mLd, mStv, mOk1, mBr, mFl, mAld, mAst, mNa, reduceCtorEq] at h)
  all_goals (repeat' (first | (cases h; done) | split at h | (simp only [Option.bind_eq_some_iff, Option.some.injEq, reduceCtorEq, and_false, exists_false] at h; done)))
/-- what a call is -/
def mIsCall (G : Nat → mRec) (i : Instr) (aux : List Nat) (L st : List Value) (μ : mM) (z : Nat) (as st' : List Value) : Prop :=
  ∃ n f idx : Nat, aux = [z, n, f] ∧ f ≠ 2 ∧ (i = .invokestatic idx → f ≠ 3) ∧ rN (G z) = n ∧ mCat st' ≤ 8 ∧ (mArgs as).length ≤ rL (G z) ∧
    ((i = .invokestatic idx ∧ rK (G z) = 0 ∧ st = as.reverse ++ st' ∧ as.length = n) ∨
     ((i = .invokevirtual idx ∧ rK (G z) = 1 ∨ i = .invokespecial idx ∧ rK (G z) = 2) ∧ ∃ a As, as = .ref a :: As ∧ st = As.reverse ++ .ref a :: st' ∧ As.length = n ∧ (mS μ a).1 = rO (G z)))
theorem mCall_inv {G : Nat → mRec} {kind y : Nat} {is : List mIns} {L st : List Value} {μ : mM} {aux : List Nat} {z : Nat} {as : List Value} {c' : mCf} (h : mCall G kind y is L st μ aux = some (.inr (.inl (z, as, c')))) :
    ∃ n f st', aux = [z, n, f] ∧ f ≠ 2 ∧ rN (G z) = n ∧ rK (G z) = kind ∧ c' = (y, is, L, st', μ) ∧ mCat st' ≤ 8 ∧ (mArgs as).length ≤ rL (G z) ∧ ((kind = 0 ∧ st = as.reverse ++ st' ∧ as.length = n) ∨ (¬ kind = 0 ∧ ∃ a As, as = .ref a :: As ∧ st = As.reverse ++ .ref a :: st' ∧ As.length = n ∧ (mS μ a).1 = rO (G z))) := by
  unfold mCall at h
  split at h
  · split at h
    · split at h
      · simp [mOk1] at h
      · cases h
    · cases h
  · rename_i z0 n f hf
    split at h
    · rename_i hk
      split at h
      · rename_i h0
        split at h
        · rename_i hc
          simp only [Option.some.injEq, Sum.inr.injEq, Sum.inl.injEq, Prod.mk.injEq] at h
          obtain ⟨rfl, rfl, rfl⟩ := h
          refine ⟨n, f, st.drop n, rfl, hf, hk.2, hk.1, rfl, hc.2.1, hc.2.2, Or.inl ⟨h0, ?_, ?_⟩⟩
          · rw [List.reverse_reverse, List.take_append_drop]
          · simp only [List.length_reverse, List.length_take]; omega
        · cases h
      · rename_i h0
        split at h
        · rename_i a rest hd
          split at h
          · rename_i hc
            simp only [Option.some.injEq, Sum.inr.injEq, Sum.inl.injEq, Prod.mk.injEq] at h
            obtain ⟨rfl, rfl, rfl⟩ := h
            refine ⟨n, f, rest, rfl, hf, hk.2, hk.1, rfl, hc.2.2.1, hc.2.2.2, Or.inr ⟨h0, a, (st.take n).reverse, rfl, ?_, ?_, hc.1⟩⟩
            · rw [List.reverse_reverse, ← hd, List.take_append_drop]
            · simp only [List.length_reverse, List.length_take]; omega
          · cases h
        · cases h
    · cases h
  · cases h
theorem mX_call {G : Nat → mRec} {y : Nat} {is : List mIns} {L st : List Value} {μ : mM} {aux : List Nat} {i : Instr} {z : Nat} {as : List Value} {c' : mCf} (h : mX G y is L st μ aux i = some (.inr (.inl (z, as, c')))) : ∃ st', c' = (y, is, L, st', μ) ∧ mIsCall G i aux L st μ z as st' := by
  cases i
  case invokestatic idx =>
    simp only [mX] at h
    split at h
    · split at h
      · split at h
        · simp [mOk1] at h
        · cases h
      · cases h
    rename_i hno3
    obtain ⟨n, f, st', h1, h2, h3, h4, h5, h6, h7, h8⟩ := mCall_inv h
    have h23 : f ≠ 3 := fun q => hno3 z n (by rw [h1, q])
    rcases h8 with ⟨-, h9, h10⟩ | ⟨h9, -⟩
    · exact ⟨st', h5, n, f, idx, h1, h2, fun _ => h23, h3, h6, h7, Or.inl ⟨rfl, h4, h9, h10⟩⟩
    · exact absurd rfl h9
  case invokevirtual idx =>
    obtain ⟨n, f, st', h1, h2, h3, h4, h5, h6, h7, h8⟩ := mCall_inv (by simpa only [mX] using h)
    rcases h8 with ⟨h9, -⟩ | ⟨-, h9⟩
    · cases h9
    · exact ⟨st', h5, n, f, idx, h1, h2, (fun q => by cases q), h3, h6, h7, Or.inr ⟨Or.inl ⟨rfl, h4⟩, h9⟩⟩
  case invokespecial idx =>
    obtain ⟨n, f, st', h1, h2, h3, h4, h5, h6, h7, h8⟩ := mCall_inv (by simpa only [mX] using h)
    rcases h8 with ⟨h9, -⟩ | ⟨-, h9⟩
    · cases h9
    · exact ⟨st', h5, n, f, idx, h1, h2, (fun q => by cases q), h3, h6, h7, Or.inr ⟨Or.inr ⟨rfl, h4⟩, h9⟩⟩
  all_goals exfalso
  all_goals (simp only [mX, mLd, mStv, mOk1, mBr, mFl, mAld, mAst, mNa, reduceCtorEq] at h)
  all_goals (repeat' (first | (cases h; done) | split at h | (simp only [Option.bind_eq_some_iff, Option.some.injEq, reduceCtorEq, and_false, exists_false] at h; done)))
