/-! a plain step of the mini machine is sound -/
theorem m_ofInt {x : Int32} {k : Int} (h1 : -1000 ≤ k) (h2 : k ≤ 2000) : x = Int32.ofInt k ↔ x.toInt = k := by
  constructor
  · rintro rfl
    exact Int32.toInt_ofInt_of_le (by omega) (by omega)
  · intro h
    rw [← h, Int32.ofInt_toInt]
theorem mTs_out {x : Int32} : ∀ (ts : List Nat) (k : Int) (d : Nat), -1000 ≤ k → k + ts.length ≤ 2000 → (x.toInt < k ∨ k + (ts.length : Int) ≤ x.toInt) → mTs x k ts d = d
  | [], k, d, _, _, _ => rfl
  | t :: r, k, d, h1, h2, h3 => by
    simp only [List.length_cons] at h2 h3
    unfold mTs
    rw [if_neg (fun h => by rw [m_ofInt h1 (by omega)] at h; omega)]
    exact mTs_out r (k + 1) d (by omega) (by omega) (by omega)
theorem mTs_in {x : Int32} : ∀ (ts : List Nat) (k : Int) (d i t : Nat), -1000 ≤ k → k + ts.length ≤ 2000 → ts[i]? = some t → x.toInt = k + i → mTs x k ts d = t
  | [], k, d, i, t, _, _, h, _ => by simp at h
  | a :: r, k, d, i, t, h1, h2, h3, h4 => by
    simp only [List.length_cons] at h2
    unfold mTs
    cases i with
    | zero =>
      rw [if_pos ((m_ofInt h1 (by omega)).mpr (by omega))]
      simpa using h3
    | succ i =>
      rw [if_neg (fun h => by rw [m_ofInt h1 (by omega)] at h; omega)]
      exact mTs_in r (k + 1) d i t (by omega) (by omega) (by simpa using h3) (by omega)
theorem mLs_off {x : Int32} {pc : Nat} {d0 : Int} : ∀ (ps : List (Int × Int)) (ts : List Nat) (d : Nat), (pc : Int) + d0 = (d : Int) → ps.map (fun p => (pc : Int) + p.2) = ts.map (fun t : Nat => (t : Int)) → (∀ p ∈ ps, -1000 ≤ p.1 ∧ p.1 ≤ 1000) → (pc : Int) + Op.lookupswitch.offset ps d0 x.toInt = ((mLs x ps ts d : Nat) : Int)
  | [], ts, d, h1, _, _ => by
    rw [Op.lookupswitch.offset_nil]
    have e : mLs x [] ts d = d := by unfold mLs; rfl
    rw [e]; exact h1
  | p :: ps, [], d, h1, h2, _ => by simp at h2
  | p :: ps, t :: ts, d, h1, h2, h3 => by
    simp only [List.map_cons, List.cons.injEq] at h2
    have hp := h3 p List.mem_cons_self
    obtain ⟨a, o⟩ := p
    rw [Op.lookupswitch.offset_cons]
    have e : mLs x ((a, o) :: ps) (t :: ts) d = if x = Int32.ofInt a then t else mLs x ps ts d := by conv => lhs; unfold mLs
    rw [e]
    by_cases h : x = Int32.ofInt a
    · rw [if_pos h, if_pos ((m_ofInt hp.1 (by have := hp.2; omega)).mp h).symm]
      exact h2.1
    · rw [if_neg h, if_neg (fun q => h ((m_ofInt hp.1 (by have := hp.2; omega)).mpr q.symm))]
      exact mLs_off ps ts d h1 h2.2 (fun q hq => h3 q (List.mem_cons_of_mem _ hq))
section MX2
variable {G : Nat → mRec} {l : Launch} {bs ba : Nat} {D : va_G} {cy : Nat → ClassId} {scr : Cell} {NM y pc len : Nat} {is : List mIns} {L st : List Value} {μ : mM} {aux : List Nat} {pl : Nat × Nat} {i : Instr} {o : mCf}
theorem mx_tableswitch {d lo hi : Int} {offs : Array Int} {dt : Nat} {ts : List Nat} {x : Int32} (hd : decode (rB (G y)) pc = .ok (.tableswitch d lo hi offs, len)) (h1 : (pc : Int) + d = (dt : Int)) (h2 : offs.toList.map (fun o => (pc : Int) + o) = ts.map (fun t : Nat => (t : Int))) (h3 : hi = lo + (ts.length : Int) - 1) (h4 : -1000 ≤ lo) (h5 : hi ≤ 1000) : mStW G l bs ba D cy scr y pc L (.int x :: st) μ (mTs x lo ts dt) L st μ := by
  intro p e R s m args below meth c H locs cells slots Q ls hC hW hL hlo hce hsl K
  obtain ⟨hx, hb, hml, hown, hts, hK, hin, hfr, hlr⟩ := hC
  simp only [Nat.sub_self, Nat.add_zero] at K
  by_cases hr : x.toInt < lo ∨ hi < x.toInt
  · rw [mTs_out ts lo dt h4 (by omega) (by omega)] at K
    exact lv_tableOut hx hb hd hr h1 (K H locs ls hW hL hlo)
  · have hl : ts.length = offs.toList.length := by
      have := congrArg List.length h2
      simpa using this.symm
    have hi2 : (x.toInt - lo).toNat < ts.length := by omega
    have e1 : ts[(x.toInt - lo).toNat]? = some ts[(x.toInt - lo).toNat] := List.getElem?_eq_getElem hi2
    have e2 : offs[(x.toInt - lo).toNat]? = some offs.toList[(x.toInt - lo).toNat] := by
      rw [← Array.getElem?_toList]; exact List.getElem?_eq_getElem (by omega)
    have e3 : (pc : Int) + offs.toList[(x.toInt - lo).toNat] = ((ts[(x.toInt - lo).toNat] : Nat) : Int) := by
      have := congrArg (fun l : List Int => l[(x.toInt - lo).toNat]?) h2
      simp only [List.getElem?_map, e1, List.getElem?_eq_getElem (show (x.toInt - lo).toNat < offs.toList.length by omega), Option.map_some] at this
      exact Option.some.inj this
    rw [mTs_in ts lo dt (x.toInt - lo).toNat _ h4 (by omega) e1 (by omega)] at K
    exact lv_tableIn hx hb hd (by omega) (by omega) e2 e3 (K H locs ls hW hL hlo)
theorem mx_lookupswitch {d : Int} {ps : Array (Int × Int)} {dt : Nat} {ts : List Nat} {x : Int32} (hd : decode (rB (G y)) pc = .ok (.lookupswitch d ps, len)) (h1 : (pc : Int) + d = (dt : Int)) (h2 : ps.toList.map (fun p => (pc : Int) + p.2) = ts.map (fun t : Nat => (t : Int))) (h3 : (ps.toList.zip (ps.toList.drop 1)).all (fun (a, next) => a.1 < next.1) = true) (h4 : ∀ p ∈ ps.toList, -1000 ≤ p.1 ∧ p.1 ≤ 1000) : mStW G l bs ba D cy scr y pc L (.int x :: st) μ (mLs x ps.toList ts dt) L st μ := by
  intro p e R s m args below meth c H locs cells slots Q ls hC hW hL hlo hce hsl K
  obtain ⟨hx, hb, hml, hown, hts, hK, hin, hfr, hlr⟩ := hC
  simp only [Nat.sub_self, Nat.add_zero] at K
  exact lv_lookup hx hb hd h3 rfl (mLs_off ps.toList ts dt h1 h2 h4) (K H locs ls hW hL hlo)
set_option maxHeartbeats 4000000 in
theorem mX_plain (hOK : mOK G NM) (hen : (pc, i, len, aux, pl) ∈ rC (G y)) (h : mX G y is L st μ aux i = some (.inl o)) : mPl G l bs ba D cy scr y is pc len L st μ o := by
  have hchk := hOK.1 y _ hen
  simp only [mChk, Bool.and_eq_true, decide_eq_true_eq, Bool.or_eq_true, beq_iff_eq] at hchk
  obtain ⟨⟨⟨hd, hlen⟩, hlk⟩, h2⟩ := hchk
  cases i
  case iload_n k =>
    have e : len = 1 := by simpa [mLen] using hlen
    subst e
    cases hv : mNth L k <;> simp only [mX, mLd, hv, mOk1, Option.some.injEq, Sum.inl.injEq, reduceCtorEq] at h
    subst h
    exact mPl_0 (mx_iload_n hd hv)
  case istore_n k =>
    have e : len = 1 := by simpa [mLen] using hlen
    subst e
    rcases st with _ | ⟨v, st⟩
    · simp [mX, mStv] at h
    · cases v <;> simp only [mX, mStv, reduceCtorEq] at h
      rename_i x
      cases hs : mSt1 L k (.int x) with
      | none => simp [hs] at h
      | some L1 =>
        simp only [hs, Option.bind_some, mOk1, Option.some.injEq, Sum.inl.injEq] at h
        subst h
        exact mPl_0 (mx_istore_n hd hs)
  case iload k =>
    have e : len = 2 := by simpa [mLen] using hlen
    subst e
    cases hv : mNth L k <;> simp only [mX, mLd, hv, mOk1, Option.some.injEq, Sum.inl.injEq, reduceCtorEq] at h
    subst h
    exact mPl_0 (mx_iload hd hv)
  case istore k =>
    have e : len = 2 := by simpa [mLen] using hlen
    subst e
    rcases st with _ | ⟨v, st⟩
    · simp [mX, mStv] at h
    · cases v <;> simp only [mX, mStv, reduceCtorEq] at h
      rename_i x
      cases hs : mSt1 L k (.int x) with
      | none => simp [hs] at h
      | some L1 =>
        simp only [hs, Option.bind_some, mOk1, Option.some.injEq, Sum.inl.injEq] at h
        subst h
        exact mPl_0 (mx_istore hd hs)
  case fload_n k =>
    have e : len = 1 := by simpa [mLen] using hlen
    subst e
    cases hv : mNth L k <;> simp only [mX, mLd, hv, mOk1, Option.some.injEq, Sum.inl.injEq, reduceCtorEq] at h
    subst h
    exact mPl_0 (mx_fload_n hd hv)
  case fstore_n k =>
    have e : len = 1 := by simpa [mLen] using hlen
    subst e
    rcases st with _ | ⟨v, st⟩
    · simp [mX, mStv] at h
    · cases v <;> simp only [mX, mStv, reduceCtorEq] at h
      rename_i x
      cases hs : mSt1 L k (.float x) with
      | none => simp [hs] at h
      | some L1 =>
        simp only [hs, Option.bind_some, mOk1, Option.some.injEq, Sum.inl.injEq] at h
        subst h
        exact mPl_0 (mx_fstore_n hd hs)
  case fload k =>
    have e : len = 2 := by simpa [mLen] using hlen
    subst e
    cases hv : mNth L k <;> simp only [mX, mLd, hv, mOk1, Option.some.injEq, Sum.inl.injEq, reduceCtorEq] at h
    subst h
    exact mPl_0 (mx_fload hd hv)
  case fstore k =>
    have e : len = 2 := by simpa [mLen] using hlen
    subst e
    rcases st with _ | ⟨v, st⟩
    · simp [mX, mStv] at h
    · cases v <;> simp only [mX, mStv, reduceCtorEq] at h
      rename_i x
      cases hs : mSt1 L k (.float x) with
      | none => simp [hs] at h
      | some L1 =>
        simp only [hs, Option.bind_some, mOk1, Option.some.injEq, Sum.inl.injEq] at h
        subst h
        exact mPl_0 (mx_fstore hd hs)
  case lload_n k =>
    have e : len = 1 := by simpa [mLen] using hlen
    subst e
    cases hv : mNth L k <;> simp only [mX, mLd, hv, mOk1, Option.some.injEq, Sum.inl.injEq, reduceCtorEq] at h
    subst h
    exact mPl_0 (mx_lload_n hd hv)
  case lstore_n k =>
    have e : len = 1 := by simpa [mLen] using hlen
    subst e
    rcases st with _ | ⟨v, st⟩
    · simp [mX, mStv] at h
    · cases v <;> simp only [mX, mStv, reduceCtorEq] at h
      rename_i x
      cases hs : mSt2 L k (.long x) with
      | none => simp [hs] at h
      | some L1 =>
        simp only [hs, Option.bind_some, mOk1, Option.some.injEq, Sum.inl.injEq] at h
        subst h
        exact mPl_0 (mx_lstore_n hd hs)
  case lload k =>
    have e : len = 2 := by simpa [mLen] using hlen
    subst e
    cases hv : mNth L k <;> simp only [mX, mLd, hv, mOk1, Option.some.injEq, Sum.inl.injEq, reduceCtorEq] at h
    subst h
    exact mPl_0 (mx_lload hd hv)
  case lstore k =>
    have e : len = 2 := by simpa [mLen] using hlen
    subst e
    rcases st with _ | ⟨v, st⟩
    · simp [mX, mStv] at h
    · cases v <;> simp only [mX, mStv, reduceCtorEq] at h
      rename_i x
      cases hs : mSt2 L k (.long x) with
      | none => simp [hs] at h
      | some L1 =>
        simp only [hs, Option.bind_some, mOk1, Option.some.injEq, Sum.inl.injEq] at h
        subst h
        exact mPl_0 (mx_lstore hd hs)
  case aload_n k =>
    have e : len = 1 := by simpa [mLen] using hlen
    subst e
    cases hv : mNth L k <;> simp only [mX, mLd, hv, mOk1, Option.some.injEq, Sum.inl.injEq, reduceCtorEq] at h
    subst h
    exact mPl_0 (mx_aload_n hd hv)
  case astore_n k =>
    have e : len = 1 := by simpa [mLen] using hlen
    subst e
    rcases st with _ | ⟨v, st⟩
    · simp [mX, mStv] at h
    · cases v <;> simp only [mX, mStv, reduceCtorEq] at h
      rename_i x
      cases hs : mSt1 L k (.ref x) with
      | none => simp [hs] at h
      | some L1 =>
        simp only [hs, Option.bind_some, mOk1, Option.some.injEq, Sum.inl.injEq] at h
        subst h
        exact mPl_0 (mx_astore_n hd hs)
  case aload k =>
    have e : len = 2 := by simpa [mLen] using hlen
    subst e
    cases hv : mNth L k <;> simp only [mX, mLd, hv, mOk1, Option.some.injEq, Sum.inl.injEq, reduceCtorEq] at h
    subst h
    exact mPl_0 (mx_aload hd hv)
  case astore k =>
    have e : len = 2 := by simpa [mLen] using hlen
    subst e
    rcases st with _ | ⟨v, st⟩
    · simp [mX, mStv] at h
    · cases v <;> simp only [mX, mStv, reduceCtorEq] at h
      rename_i x
      cases hs : mSt1 L k (.ref x) with
      | none => simp [hs] at h
      | some L1 =>
        simp only [hs, Option.bind_some, mOk1, Option.some.injEq, Sum.inl.injEq] at h
        subst h
        exact mPl_0 (mx_astore hd hs)
  case iinc k n =>
    have e : len = 3 := by simpa [mLen] using hlen
    subst e
    cases hv : mNth L k <;> simp only [mX, hv, reduceCtorEq] at h
    rename_i x
    cases hs : mSt1 L k (.int (x + Int32.ofInt n)) with
    | none => simp [hs] at h
    | some L1 =>
      simp only [hs, Option.bind_some, mOk1, Option.some.injEq, Sum.inl.injEq] at h
      subst h
      exact mPl_0 (mx_iinc hd hv hs)
  case iconst n =>
    have e : len = 1 := by simpa [mLen] using hlen
    subst e
    simp only [mX] at h
    simp only [mOk1, Option.some.injEq, Sum.inl.injEq] at h; subst h
    exact mPl_0 (mx_iconst hd)
  case bipush n =>
    have e : len = 2 := by simpa [mLen] using hlen
    subst e
    simp only [mX] at h
    simp only [mOk1, Option.some.injEq, Sum.inl.injEq] at h; subst h
    exact mPl_0 (mx_bipush hd)
  case sipush n =>
    have e : len = 3 := by simpa [mLen] using hlen
    subst e
    simp only [mX] at h
    simp only [mOk1, Option.some.injEq, Sum.inl.injEq] at h; subst h
    exact mPl_0 (mx_sipush hd)
  case lconst n =>
    have e : len = 1 := by simpa [mLen] using hlen
    subst e
    simp only [mX] at h
    simp only [mOk1, Option.some.injEq, Sum.inl.injEq] at h; subst h
    exact mPl_0 (mx_lconst hd)
  case fconst n =>
    have e : len = 1 := by simpa [mLen] using hlen
    subst e
    simp only [mX] at h
    split at h
    · simp only [mOk1, Option.some.injEq, Sum.inl.injEq] at h; subst h; exact mPl_0 (mx_fconst0 hd)
    · simp only [mOk1, Option.some.injEq, Sum.inl.injEq] at h; subst h; exact mPl_0 (mx_fconst1 hd)
    · simp only [mOk1, Option.some.injEq, Sum.inl.injEq] at h; subst h; exact mPl_0 (mx_fconst2 hd)
  case aconst_null =>
    have e : len = 1 := by simpa [mLen] using hlen
    subst e
    simp only [mX] at h
    simp only [mOk1, Option.some.injEq, Sum.inl.injEq] at h; subst h
    exact mPl_0 (mx_aconst_null hd)
  case ldc k =>
    have e : len = 2 := by simpa [mLen] using hlen
    subst e
    simp only [mX] at h
    split at h
    · simp only [mOk1, Option.some.injEq, Sum.inl.injEq] at h; subst h
      simp only [mLk, decide_eq_true_eq] at hlk
      exact mPl_0 (mx_ldc hd (mGd_in hlk rfl))
    · cases h
  case ldc_w k =>
    have e : len = 3 := by simpa [mLen] using hlen
    subst e
    simp only [mX] at h
    split at h
    · simp only [mOk1, Option.some.injEq, Sum.inl.injEq] at h; subst h
      simp only [mLk, decide_eq_true_eq] at hlk
      exact mPl_0 (mx_ldc_w hd (mGd_in hlk rfl))
    · cases h
  case ldc2_w k =>
    have e : len = 3 := by simpa [mLen] using hlen
    subst e
    simp only [mX] at h
    split at h
    · simp only [mOk1, Option.some.injEq, Sum.inl.injEq] at h; subst h
      simp only [mLk, decide_eq_true_eq] at hlk
      exact mPl_0 (mx_ldc2_w hd (mGd_in hlk rfl))
    · cases h
  case iadd =>
    have e : len = 1 := by simpa [mLen] using hlen
    subst e
    simp only [mX] at h
    split at h
    · simp only [mOk1, Option.some.injEq, Sum.inl.injEq] at h; subst h; exact mPl_0 (mx_iadd hd)
    · cases h
  case isub =>
    have e : len = 1 := by simpa [mLen] using hlen
    subst e
    simp only [mX] at h
    split at h
    · simp only [mOk1, Option.some.injEq, Sum.inl.injEq] at h; subst h; exact mPl_0 (mx_isub hd)
    · cases h
  case imul =>
    have e : len = 1 := by simpa [mLen] using hlen
    subst e
    simp only [mX] at h
    split at h
    · simp only [mOk1, Option.some.injEq, Sum.inl.injEq] at h; subst h; exact mPl_0 (mx_imul hd)
    · cases h
  case iand =>
    have e : len = 1 := by simpa [mLen] using hlen
    subst e
    simp only [mX] at h
    split at h
    · simp only [mOk1, Option.some.injEq, Sum.inl.injEq] at h; subst h; exact mPl_0 (mx_iand hd)
    · cases h
  case ior =>
    have e : len = 1 := by simpa [mLen] using hlen
    subst e
    simp only [mX] at h
    split at h
    · simp only [mOk1, Option.some.injEq, Sum.inl.injEq] at h; subst h; exact mPl_0 (mx_ior hd)
    · cases h
  case ishl =>
    have e : len = 1 := by simpa [mLen] using hlen
    subst e
    simp only [mX] at h
    split at h
    · simp only [mOk1, Option.some.injEq, Sum.inl.injEq] at h; subst h; exact mPl_0 (mx_ishl hd)
    · cases h
  case ishr =>
    have e : len = 1 := by simpa [mLen] using hlen
    subst e
    simp only [mX] at h
    split at h
    · simp only [mOk1, Option.some.injEq, Sum.inl.injEq] at h; subst h; exact mPl_0 (mx_ishr hd)
    · cases h
  case ladd =>
    have e : len = 1 := by simpa [mLen] using hlen
    subst e
    simp only [mX] at h
    split at h
    · simp only [mOk1, Option.some.injEq, Sum.inl.injEq] at h; subst h; exact mPl_0 (mx_ladd hd)
    · cases h
  case lsub =>
    have e : len = 1 := by simpa [mLen] using hlen
    subst e
    simp only [mX] at h
    split at h
    · simp only [mOk1, Option.some.injEq, Sum.inl.injEq] at h; subst h; exact mPl_0 (mx_lsub hd)
    · cases h
  case lmul =>
    have e : len = 1 := by simpa [mLen] using hlen
    subst e
    simp only [mX] at h
    split at h
    · simp only [mOk1, Option.some.injEq, Sum.inl.injEq] at h; subst h; exact mPl_0 (mx_lmul hd)
    · cases h
  case lcmp =>
    have e : len = 1 := by simpa [mLen] using hlen
    subst e
    simp only [mX] at h
    split at h
    · simp only [mOk1, Option.some.injEq, Sum.inl.injEq] at h; subst h; exact mPl_0 (mx_lcmp hd)
    · cases h
  case i2l =>
    have e : len = 1 := by simpa [mLen] using hlen
    subst e
    simp only [mX] at h
    split at h
    · simp only [mOk1, Option.some.injEq, Sum.inl.injEq] at h; subst h; exact mPl_0 (mx_i2l hd)
    · cases h
  case i2f =>
    have e : len = 1 := by simpa [mLen] using hlen
    subst e
    simp only [mX] at h
    split at h
    · simp only [mOk1, Option.some.injEq, Sum.inl.injEq] at h; subst h; exact mPl_0 (mx_i2f hd)
    · cases h
  case f2i =>
    have e : len = 1 := by simpa [mLen] using hlen
    subst e
    simp only [mX] at h
    split at h
    · simp only [mOk1, Option.some.injEq, Sum.inl.injEq] at h; subst h; exact mPl_0 (mx_f2i hd)
    · cases h
  case fcmp op =>
    have e : len = 1 := by simpa [mLen] using hlen
    subst e
    simp only [mX] at h
    split at h
    · simp only [mOk1, Option.some.injEq, Sum.inl.injEq] at h; subst h; exact mPl_0 (mx_fcmp hd)
    · cases h
  case idiv =>
    have e : len = 1 := by simpa [mLen] using hlen
    subst e
    simp only [mX] at h
    split at h
    · split at h
      · cases h
      · rename_i hne
        simp only [mOk1, Option.some.injEq, Sum.inl.injEq] at h; subst h; exact mPl_0 (mx_idiv hd hne)
    · cases h
  case irem =>
    have e : len = 1 := by simpa [mLen] using hlen
    subst e
    simp only [mX] at h
    split at h
    · split at h
      · cases h
      · rename_i hne
        simp only [mOk1, Option.some.injEq, Sum.inl.injEq] at h; subst h; exact mPl_0 (mx_irem hd hne)
    · cases h
  case fadd =>
    have e : len = 1 := by simpa [mLen] using hlen
    subst e
    simp only [mX, mFl] at h
    split at h
    · split at h
      · rename_i hne
        simp only [mOk1, Option.some.injEq, Sum.inl.injEq] at h; subst h; exact mPl_0 (mx_fadd hd hne)
      · cases h
    · cases h
  case fsub =>
    have e : len = 1 := by simpa [mLen] using hlen
    subst e
    simp only [mX, mFl] at h
    split at h
    · split at h
      · rename_i hne
        simp only [mOk1, Option.some.injEq, Sum.inl.injEq] at h; subst h; exact mPl_0 (mx_fsub hd hne)
      · cases h
    · cases h
  case fmul =>
    have e : len = 1 := by simpa [mLen] using hlen
    subst e
    simp only [mX, mFl] at h
    split at h
    · split at h
      · rename_i hne
        simp only [mOk1, Option.some.injEq, Sum.inl.injEq] at h; subst h; exact mPl_0 (mx_fmul hd hne)
      · cases h
    · cases h
  case fdiv =>
    have e : len = 1 := by simpa [mLen] using hlen
    subst e
    simp only [mX, mFl] at h
    split at h
    · split at h
      · rename_i hne
        simp only [mOk1, Option.some.injEq, Sum.inl.injEq] at h; subst h; exact mPl_0 (mx_fdiv hd hne)
      · cases h
    · cases h
  case dup =>
    have e : len = 1 := by simpa [mLen] using hlen
    subst e
    simp only [mX] at h
    split at h
    · split at h
      · rename_i hv
        simp only [mOk1, Option.some.injEq, Sum.inl.injEq] at h; subst h; exact mPl_0 (mx_dup hd hv)
      · cases h
    · cases h
  case dup2 =>
    have e : len = 1 := by simpa [mLen] using hlen
    subst e
    simp only [mX] at h
    split at h
    · split at h
      · rename_i hv
        simp only [mOk1, Option.some.injEq, Sum.inl.injEq] at h; subst h; exact mPl_0 (mx_dup2 hd hv)
      · cases h
    · cases h
  case pop =>
    have e : len = 1 := by simpa [mLen] using hlen
    subst e
    simp only [mX] at h
    split at h
    · split at h
      · rename_i hv
        simp only [mOk1, Option.some.injEq, Sum.inl.injEq] at h; subst h; exact mPl_0 (mx_pop hd hv)
      · cases h
    · cases h
  case goto off =>
    have e : len = 3 := by simpa [mLen] using hlen
    subst e
    simp only [mX] at h
    split at h
    · have ht := h2
      simp only [mChk2, mBrOk, decide_eq_true_eq] at ht
      simp only [mOk1, Option.some.injEq, Sum.inl.injEq] at h; subst h; exact mPl_j (mx_goto hd ht)
    · cases h
  case ifCond cnd off =>
    have e : len = 3 := by simpa [mLen] using hlen
    subst e
    simp only [mX] at h
    split at h
    · have ht := h2
      simp only [mChk2, mBrOk, decide_eq_true_eq] at ht
      cases cnd with
      | eq =>
        simp only [mBr] at h
        split at h
        · rename_i hc
          simp only [mOk1, Option.some.injEq, Sum.inl.injEq] at h; subst h; exact mPl_j (mx_if_eq_t hd ht hc)
        · rename_i hc
          simp only [mOk1, Option.some.injEq, Sum.inl.injEq] at h; subst h; exact mPl_0 (mx_if_eq_f hd ht hc)
      | ne =>
        simp only [mBr] at h
        split at h
        · rename_i hc
          simp only [mOk1, Option.some.injEq, Sum.inl.injEq] at h; subst h; exact mPl_j (mx_if_ne_t hd ht hc)
        · rename_i hc
          simp only [mOk1, Option.some.injEq, Sum.inl.injEq] at h; subst h; exact mPl_0 (mx_if_ne_f hd ht hc)
      | lt =>
        simp only [mBr] at h
        split at h
        · rename_i hc
          simp only [mOk1, Option.some.injEq, Sum.inl.injEq] at h; subst h; exact mPl_j (mx_if_lt_t hd ht hc)
        · rename_i hc
          simp only [mOk1, Option.some.injEq, Sum.inl.injEq] at h; subst h; exact mPl_0 (mx_if_lt_f hd ht hc)
      | ge =>
        simp only [mBr] at h
        split at h
        · rename_i hc
          simp only [mOk1, Option.some.injEq, Sum.inl.injEq] at h; subst h; exact mPl_j (mx_if_ge_t hd ht hc)
        · rename_i hc
          simp only [mOk1, Option.some.injEq, Sum.inl.injEq] at h; subst h; exact mPl_0 (mx_if_ge_f hd ht hc)
      | gt =>
        simp only [mBr] at h
        split at h
        · rename_i hc
          simp only [mOk1, Option.some.injEq, Sum.inl.injEq] at h; subst h; exact mPl_j (mx_if_gt_t hd ht hc)
        · rename_i hc
          simp only [mOk1, Option.some.injEq, Sum.inl.injEq] at h; subst h; exact mPl_0 (mx_if_gt_f hd ht hc)
      | le =>
        simp only [mBr] at h
        split at h
        · rename_i hc
          simp only [mOk1, Option.some.injEq, Sum.inl.injEq] at h; subst h; exact mPl_j (mx_if_le_t hd ht hc)
        · rename_i hc
          simp only [mOk1, Option.some.injEq, Sum.inl.injEq] at h; subst h; exact mPl_0 (mx_if_le_f hd ht hc)
    · cases h
  case if_icmp cnd off =>
    have e : len = 3 := by simpa [mLen] using hlen
    subst e
    simp only [mX] at h
    split at h
    · have ht := h2
      simp only [mChk2, mBrOk, decide_eq_true_eq] at ht
      cases cnd with
      | eq =>
        simp only [mBr] at h
        split at h
        · rename_i hc
          simp only [mOk1, Option.some.injEq, Sum.inl.injEq] at h; subst h; exact mPl_j (mx_icmp_eq_t hd ht hc)
        · rename_i hc
          simp only [mOk1, Option.some.injEq, Sum.inl.injEq] at h; subst h; exact mPl_0 (mx_icmp_eq_f hd ht hc)
      | ne =>
        simp only [mBr] at h
        split at h
        · rename_i hc
          simp only [mOk1, Option.some.injEq, Sum.inl.injEq] at h; subst h; exact mPl_j (mx_icmp_ne_t hd ht hc)
        · rename_i hc
          simp only [mOk1, Option.some.injEq, Sum.inl.injEq] at h; subst h; exact mPl_0 (mx_icmp_ne_f hd ht hc)
      | lt =>
        simp only [mBr] at h
        split at h
        · rename_i hc
          simp only [mOk1, Option.some.injEq, Sum.inl.injEq] at h; subst h; exact mPl_j (mx_icmp_lt_t hd ht hc)
        · rename_i hc
          simp only [mOk1, Option.some.injEq, Sum.inl.injEq] at h; subst h; exact mPl_0 (mx_icmp_lt_f hd ht hc)
      | ge =>
        simp only [mBr] at h
        split at h
        · rename_i hc
          simp only [mOk1, Option.some.injEq, Sum.inl.injEq] at h; subst h; exact mPl_j (mx_icmp_ge_t hd ht hc)
        · rename_i hc
          simp only [mOk1, Option.some.injEq, Sum.inl.injEq] at h; subst h; exact mPl_0 (mx_icmp_ge_f hd ht hc)
      | gt =>
        simp only [mBr] at h
        split at h
        · rename_i hc
          simp only [mOk1, Option.some.injEq, Sum.inl.injEq] at h; subst h; exact mPl_j (mx_icmp_gt_t hd ht hc)
        · rename_i hc
          simp only [mOk1, Option.some.injEq, Sum.inl.injEq] at h; subst h; exact mPl_0 (mx_icmp_gt_f hd ht hc)
      | le =>
        simp only [mBr] at h
        split at h
        · rename_i hc
          simp only [mOk1, Option.some.injEq, Sum.inl.injEq] at h; subst h; exact mPl_j (mx_icmp_le_t hd ht hc)
        · rename_i hc
          simp only [mOk1, Option.some.injEq, Sum.inl.injEq] at h; subst h; exact mPl_0 (mx_icmp_le_f hd ht hc)
    · cases h
  case ifnull off =>
    have e : len = 3 := by simpa [mLen] using hlen
    subst e
    simp only [mX, mBr] at h
    split at h
    · have ht := h2
      simp only [mChk2, mBrOk, decide_eq_true_eq] at ht
      split at h
      · rename_i hc
        simp only [mOk1, Option.some.injEq, Sum.inl.injEq] at h; subst h; exact mPl_j (mx_ifnull_t hd ht hc)
      · rename_i hc
        simp only [mOk1, Option.some.injEq, Sum.inl.injEq] at h; subst h; exact mPl_0 (mx_ifnull_f hd hc)
    · cases h
  case ifnonnull off =>
    have e : len = 3 := by simpa [mLen] using hlen
    subst e
    simp only [mX, mBr] at h
    split at h
    · have ht := h2
      simp only [mChk2, mBrOk, decide_eq_true_eq] at ht
      split at h
      · rename_i hc
        simp only [mOk1, Option.some.injEq, Sum.inl.injEq] at h; subst h; exact mPl_j (mx_ifnonnull_t hd ht hc)
      · rename_i hc
        simp only [mOk1, Option.some.injEq, Sum.inl.injEq] at h; subst h; exact mPl_0 (mx_ifnonnull_f hd (Classical.not_not.mp hc))
    · cases h
  case tableswitch d lo hi offs =>
    simp only [mX] at h
    split at h
    · have ht := h2
      simp only [mChk2, Bool.and_eq_true, decide_eq_true_eq] at ht
      obtain ⟨⟨⟨⟨t1, t2⟩, t3⟩, t4⟩, t5⟩ := ht
      simp only [mOk1, Option.some.injEq, Sum.inl.injEq] at h; subst h; exact mPl_j (mx_tableswitch hd t1 t2 t3 t4 t5)
    · cases h
  case lookupswitch d ps =>
    simp only [mX] at h
    split at h
    · have ht := h2
      simp only [mChk2, Bool.and_eq_true, decide_eq_true_eq] at ht
      obtain ⟨⟨⟨t1, t2⟩, t3⟩, t4⟩ := ht
      simp only [mOk1, Option.some.injEq, Sum.inl.injEq] at h; subst h
      refine mPl_j (mx_lookupswitch hd t1 t2 t3 (fun p hp => ?_))
      have := List.all_eq_true.mp t4 p hp
      simpa using this
    · cases h
  case getfield idx =>
    have e : len = 3 := by simpa [mLen] using hlen
    subst e
    simp only [mX] at h
    split at h
    · split at h
      · rename_i hc
        have ht := h2
        simp only [mChk2, Bool.and_eq_true, decide_eq_true_eq] at ht
        simp only [mLk, decide_eq_true_eq] at hlk
        obtain ⟨⟨t1, t2⟩, t3⟩ := ht
        subst t3
        simp only [mOk1, Option.some.injEq, Sum.inl.injEq] at h; subst h
        exact mPl_0 (mx_getfield hd (Prod.ext hc rfl) t1 t2 (mGd_in hlk rfl))
      · cases h
    · cases h
  case putfield idx =>
    have e : len = 3 := by simpa [mLen] using hlen
    subst e
    simp only [mX] at h
    split at h
    · split at h
      · rename_i v a st c0 k ty hc
        have ht := h2
        simp only [mChk2, Bool.and_eq_true, decide_eq_true_eq] at ht
        simp only [mLk, decide_eq_true_eq] at hlk
        obtain ⟨⟨⟨t1, t2⟩, t3⟩, t4⟩ := ht
        subst t3
        cases hset : mSet μ (mTy c0 k) a k v with
        | none => simp [hset] at h
        | some μ1 =>
          simp only [hset, Option.bind_some, mOk1, Option.some.injEq, Sum.inl.injEq] at h
          subst h
          exact mPl_set hset (mx_putfield hd (Prod.ext hc rfl) t1 t2 (mGd_in hlk rfl) hset (fun hf => by rw [hf] at t4; simpa using t4))
      · cases h
    · cases h
  case iaload =>
    have e : len = 1 := by simpa [mLen] using hlen
    subst e
    simp only [mX] at h
    split at h
    · split at h
      · rename_i hc
        simp only [mOk1, Option.some.injEq, Sum.inl.injEq] at h; subst h; exact mPl_0 (mx_iaload hd (Prod.ext rfl rfl) hc.1 hc.2)
      · cases h
    · cases h
  case faload =>
    have e : len = 1 := by simpa [mLen] using hlen
    subst e
    simp only [mX, mAld] at h
    split at h
    · split at h
      · rename_i hc
        simp only [mOk1, Option.some.injEq, Sum.inl.injEq] at h; subst h; exact mPl_0 (mx_faload hd (Prod.ext hc.1 rfl) hc.2)
      · cases h
    · cases h
  case baload =>
    have e : len = 1 := by simpa [mLen] using hlen
    subst e
    simp only [mX, mAld] at h
    split at h
    · split at h
      · rename_i hc
        simp only [mOk1, Option.some.injEq, Sum.inl.injEq] at h; subst h; exact mPl_0 (mx_baload hd (Prod.ext hc.1 rfl) hc.2)
      · cases h
    · cases h
  case aaload =>
    have e : len = 1 := by simpa [mLen] using hlen
    subst e
    simp only [mX, mAld] at h
    split at h
    · split at h
      · split at h
        · rename_i hc
          have ht := h2
          simp only [mChk2, decide_eq_true_eq] at ht
          simp only [mOk1, Option.some.injEq, Sum.inl.injEq] at h; subst h; exact mPl_0 (mx_aaload hd (Prod.ext hc.1 rfl) ht hc.2)
        · cases h
      · cases h
    · cases h
  case iastore =>
    have e : len = 1 := by simpa [mLen] using hlen
    subst e
    simp only [mX, mAst] at h
    split at h
    · split at h
      · rename_i v j a st hc
        cases hset : mSet μ 0 a j.toNatClampNeg v with
        | none => simp [hset] at h
        | some μ1 =>
          simp only [hset, Option.bind_some, mOk1, Option.some.injEq, Sum.inl.injEq] at h
          subst h
          cases v <;> first
            | exact mPl_set hset (mx_iastore hd (Prod.ext hc.1 rfl) hc.2 hset)
            | (simp [mSet] at hset; done)
      · cases h
    · cases h
  case fastore =>
    have e : len = 1 := by simpa [mLen] using hlen
    subst e
    simp only [mX, mAst] at h
    split at h
    · split at h
      · rename_i v j a st hc
        cases hset : mSet μ 1 a j.toNatClampNeg v with
        | none => simp [hset] at h
        | some μ1 =>
          simp only [hset, Option.bind_some, mOk1, Option.some.injEq, Sum.inl.injEq] at h
          subst h
          cases v <;> first
            | exact mPl_set hset (mx_fastore hd (Prod.ext hc.1 rfl) hc.2 hset)
            | (simp [mSet] at hset; done)
      · cases h
    · cases h
  case bastore =>
    have e : len = 1 := by simpa [mLen] using hlen
    subst e
    simp only [mX, mAst] at h
    split at h
    · split at h
      · rename_i v j a st hc
        cases hset : mSet μ 4 a j.toNatClampNeg v with
        | none => simp [hset] at h
        | some μ1 =>
          simp only [hset, Option.bind_some, mOk1, Option.some.injEq, Sum.inl.injEq] at h
          subst h
          cases v <;> first
            | exact mPl_set hset (mx_bastore hd (Prod.ext hc.1 rfl) hc.2 hset)
            | (simp [mSet] at hset; done)
      · cases h
    · cases h
  case aastore =>
    have e : len = 1 := by simpa [mLen] using hlen
    subst e
    simp only [mX] at h
    split at h
    · split at h
      · rename_i hq
        have ht := h2
        simp only [mChk2, decide_eq_true_eq] at ht
        simp only [mAst] at h
        split at h
        · split at h
          · rename_i q tl r t v j a st heq hc
            injection heq with e1 e2
            subst e1
            subst e2
            cases hset : mSet μ 3 a j.toNatClampNeg (.ref q) with
            | none => simp [hset] at h
            | some μ1 =>
              simp only [hset, Option.bind_some, mOk1, Option.some.injEq, Sum.inl.injEq] at h
              subst h
              exact mPl_set hset (mx_aastore hd (Prod.ext hc.1 rfl) ht hc.2 (Prod.ext hq.1 rfl) hset)
          · cases h
        · cases h
      · cases h
    · cases h
  case arraylength =>
    have e : len = 1 := by simpa [mLen] using hlen
    subst e
    simp only [mX] at h
    split at h
    · split at h
      · rename_i hc
        simp only [mOk1, Option.some.injEq, Sum.inl.injEq] at h; subst h; exact mPl_0 (mx_arraylength hd (Prod.ext hc rfl))
      · cases h
    · cases h
  case new idx =>
    have e : len = 3 := by simpa [mLen] using hlen
    subst e
    simp only [mX] at h
    split at h
    · split at h
      · rename_i hc
        simp only [mLk, decide_eq_true_eq] at hlk
        simp only [mOk1, Option.some.injEq, Sum.inl.injEq] at h; subst h; exact mPl_new (mx_new hd hc (mGd_in hlk rfl))
      · cases h
    · cases h
  case newarray t =>
    have e : len = 2 := by simpa [mLen] using hlen
    subst e
    have ht := h2
    simp only [mChk2, decide_eq_true_eq] at ht
    simp only [mX, mNa] at h
    split at h
    · split at h
      · rename_i hc
        rcases ht with rfl | rfl | rfl
        · simp only [mOk1, Option.some.injEq, Sum.inl.injEq] at h; subst h; exact mPl_new (mx_newarray_i hd hc)
        · simp only [mOk1, Option.some.injEq, Sum.inl.injEq] at h; subst h; exact mPl_new (mx_newarray_f hd hc)
        · simp only [mOk1, Option.some.injEq, Sum.inl.injEq] at h; subst h; exact mPl_new (mx_newarray_z hd hc)
      · cases h
    · cases h
  case anewarray idx =>
    have e : len = 3 := by simpa [mLen] using hlen
    subst e
    simp only [mX, mNa] at h
    split at h
    · split at h
      · split at h
        · rename_i hc
          have ht := h2
          simp only [mChk2, decide_eq_true_eq] at ht
          simp only [mLk, decide_eq_true_eq] at hlk
          simp only [mOk1, Option.some.injEq, Sum.inl.injEq] at h; subst h; exact mPl_new (mx_anewarray hd ht (mGd_in hlk rfl) hc)
        · cases h
      · cases h
    · cases h
  case invokespecial idx =>
    have e : len = 3 := by simpa [mLen] using hlen
    subst e
    simp only [mX, mCall] at h
    split at h
    · split at h
      · split at h
        · rename_i hc
          have ht := h2
          simp [mChk2, mCallOk, mNo3] at ht
          simp [mLk] at hlk
          simp only [mOk1, Option.some.injEq, Sum.inl.injEq] at h; subst h
          exact mPl_0 (mx_objInit hd (mGd_in hlk rfl) hOK.2.2.2.1 hOK.2.2.2.2.1 hc.1 hc.2 ht.1 ht.2)
        · cases h
      · cases h
    · split at h
      · split at h
        · split at h
          · cases h
          · cases h
        · split at h
          · split at h
            · cases h
            · cases h
          · cases h
      · cases h
    · cases h
  case invokestatic idx =>
    have e : len = 3 := by simpa [mLen] using hlen
    subst e
    simp only [mX] at h
    split at h
    · split at h
      · split at h
        · rename_i hc
          have ht := h2
          simp [mChk2, mCallOk] at ht
          simp [mLk] at hlk
          simp only [mOk1, Option.some.injEq, Sum.inl.injEq] at h; subst h
          rename_i w w2 z0 b a st0
          by_cases hw : w = 0
          · rw [if_pos hw] at hlk
            simp only [if_pos hw]
            exact mPl_0 (mx_min hd (mGd_in hlk rfl) hOK.2.2.2.2.2.2 hc ht.1 ht.2)
          · rw [if_neg hw] at hlk
            simp only [if_neg hw]
            exact mPl_0 (mx_max hd (mGd_in hlk rfl) hOK.2.2.2.2.2.2 hc ht.1 ht.2)
        · cases h
      · cases h
    · exfalso
      simp only [mCall] at h
      split at h
      · rcases st with _ | ⟨v, st⟩
        · simp at h
        · cases v <;> simp at h
      · split at h
        · split at h
          · split at h <;> cases h
          · split at h
            · split at h <;> cases h
            · cases h
        · cases h
      · cases h
  case invokevirtual idx =>
    exfalso
    simp only [mX, mCall] at h
    split at h
    · rcases st with _ | ⟨v, st⟩
      · simp at h
      · cases v <;> simp at h
    · split at h
      · split at h
        · split at h <;> cases h
        · split at h
          · split at h <;> cases h
          · cases h
      · cases h
    · cases h
  case ireturn =>
    exfalso
    simp only [mX] at h
    split at h
    · split at h <;> cases h
    · cases h
  case lreturn =>
    exfalso
    simp only [mX] at h
    split at h
    · split at h <;> cases h
    · cases h
  case freturn =>
    exfalso
    simp only [mX] at h
    split at h
    · split at h <;> cases h
    · cases h
  case return_ =>
    exfalso
    simp only [mX] at h
    split at h
    · split at h <;> cases h
    · cases h
  case areturn =>
    exfalso
    simp only [mX] at h
    split at h <;> cases h
  all_goals (simp only [mX, reduceCtorEq] at h)
end MX2
