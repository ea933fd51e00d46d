/-! rules for walking the mini machine, and loops of the models -/
abbrev mInb (j : Int32) (n : Nat) : Prop := ¬ (j < 0 ∨ n ≤ j.toNatClampNeg)
def mUI (μ : mM) (a k : Nat) (x : Int32) : mM := (mU μ.1 a k x, μ.2)
def mUF (μ : mM) (a k : Nat) (x : UInt32) : mM := (μ.1, mU μ.2.1 a k x, μ.2.2)
def mUJ (μ : mM) (a k : Nat) (x : Int64) : mM := (μ.1, μ.2.1, mU μ.2.2.1 a k x, μ.2.2.2)
def mUP (μ : mM) (a k : Nat) (x : Nat) : mM := (μ.1, μ.2.1, μ.2.2.1, mU μ.2.2.2.1 a k x, μ.2.2.2.2)
theorem mIf {c : Prop} [Decidable c] {α : Type} {a : Option α} {o : α} (h : (if c then a else none) = some o) : c ∧ a = some o := by
  by_cases hc : c
  · rw [if_pos hc] at h; exact ⟨hc, h⟩
  · rw [if_neg hc] at h; cases h
theorem mIte {c : Prop} [Decidable c] {α : Type} {a b : Option α} {o : α} (h : (if c then a else b) = some o) : (c ∧ a = some o) ∨ (¬ c ∧ b = some o) := by
  by_cases hc : c
  · rw [if_pos hc] at h; exact Or.inl ⟨hc, h⟩
  · rw [if_neg hc] at h; exact Or.inr ⟨hc, h⟩
theorem mBs {α β : Type} {a : α} {f : α → Option β} {o : β} (h : (some a).bind f = some o) : f a = some o := h
theorem mBi {α β : Type} {a : Option α} {f : α → Option β} {o : β} (h : a.bind f = some o) : ∃ x, a = some x ∧ f x = some o := Option.bind_eq_some_iff.mp h
def mLoop {σ ε ρ : Type} (b : σ → Option (σ ⊕ (ε ⊕ ρ))) : Nat → σ → Option (ε ⊕ ρ)
  | 0, _ => none
  | n + 1, s => match b s with
    | none => none
    | some (.inl s') => mLoop b n s'
    | some (.inr o) => some o
theorem mLoop_go {σ ε ρ : Type} {b : σ → Option (σ ⊕ (ε ⊕ ρ))} {Hd : σ → Prop} {Ex : ε → Prop} {Re : ρ → Prop} (hb : ∀ s o, b s = some o → Sum.elim Hd (Sum.elim Ex Re) o → Hd s) : ∀ (n : Nat) (s : σ) (o : ε ⊕ ρ), mLoop b n s = some o → Sum.elim Ex Re o → Hd s
  | 0, s, o, h, _ => by cases h
  | n + 1, s, o, h, hc => by
    unfold mLoop at h
    split at h
    · cases h
    · rename_i s' hs
      exact hb s _ hs (mLoop_go hb n s' o h hc)
    · rename_i o' hs
      cases h
      exact hb s _ hs hc
section RL
variable {G : Nat → mRec} {y pc ln c k ty i : Nat} {is : List mIns} {L st : List Value} {μ μ' : mM} {aux : List Nat} {pl : Nat × Nat} {r : Option Value × mM} {a : Nat} {v : Value} {j x : Int32}
theorem gGet (h : (mS μ a).1 = c) (hv : mVl μ ty a k = v) (kk : mGo G (y, is, L, v :: st, μ) r) : mGo G (y, (pc, .getfield i, ln, [c, k, ty], pl) :: is, L, .ref a :: st, μ) r := by
  refine mGo.step ?_ kk
  simp only [mStep, mX, if_pos h, hv, mOk1]
theorem gPut (h : (mS μ a).1 = c) (hs : mSet μ ty a k v = some μ') (kk : mGo G (y, is, L, st, μ') r) : mGo G (y, (pc, .putfield i, ln, [c, k, ty], pl) :: is, L, v :: .ref a :: st, μ) r := by
  refine mGo.step ?_ kk
  simp only [mStep, mX, if_pos h, hs, Option.bind_some, mOk1]
theorem gZ (h : x = 0 ∨ x = 1) : mSet μ 4 a k (.int x) = some (mUI μ a k x) := by
  simp only [mSet, if_pos h]; rfl
theorem gIald (h : (mS μ a).1 = 10 ∧ mInb j (mS μ a).2) (kk : mGo G (y, is, L, .int (mI μ a j.toNatClampNeg) :: st, μ) r) : mGo G (y, (pc, .iaload, ln, aux, pl) :: is, L, .int j :: .ref a :: st, μ) r := by
  refine mGo.step ?_ kk
  simp only [mStep, mX]
  rw [if_pos ⟨Or.inl h.1, h.2⟩]; rfl
theorem gSald (h : (mS μ a).1 = 98 ∧ mInb j (mS μ a).2) (kk : mGo G (y, is, L, .int (mI μ a j.toNatClampNeg) :: st, μ) r) : mGo G (y, (pc, .iaload, ln, aux, pl) :: is, L, .int j :: .ref a :: st, μ) r := by
  refine mGo.step ?_ kk
  simp only [mStep, mX]
  rw [if_pos ⟨Or.inr h.1, h.2⟩]; rfl
theorem gFald (h : (mS μ a).1 = 11 ∧ mInb j (mS μ a).2) (kk : mGo G (y, is, L, .float (mF μ a j.toNatClampNeg) :: st, μ) r) : mGo G (y, (pc, .faload, ln, aux, pl) :: is, L, .int j :: .ref a :: st, μ) r := by
  refine mGo.step ?_ kk
  simp only [mStep, mX, mAld]
  rw [if_pos h]; rfl
theorem gBald (h : (mS μ a).1 = 12 ∧ mInb j (mS μ a).2) (kk : mGo G (y, is, L, .int (mI μ a j.toNatClampNeg) :: st, μ) r) : mGo G (y, (pc, .baload, ln, aux, pl) :: is, L, .int j :: .ref a :: st, μ) r := by
  refine mGo.step ?_ kk
  simp only [mStep, mX, mAld]
  rw [if_pos h]; rfl
theorem gAald {t : Nat} (h : (mS μ a).1 = 20 + t ∧ mInb j (mS μ a).2) (kk : mGo G (y, is, L, .ref (mP μ a j.toNatClampNeg) :: st, μ) r) : mGo G (y, (pc, .aaload, ln, [t], pl) :: is, L, .int j :: .ref a :: st, μ) r := by
  refine mGo.step ?_ kk
  simp only [mStep, mX, mAld]
  rw [if_pos h]; rfl
theorem gIast (h : (mS μ a).1 = 10 ∧ mInb j (mS μ a).2) (kk : mGo G (y, is, L, st, mUI μ a j.toNatClampNeg x) r) : mGo G (y, (pc, .iastore, ln, aux, pl) :: is, L, .int x :: .int j :: .ref a :: st, μ) r := by
  refine mGo.step ?_ kk
  simp only [mStep, mX, mAst]
  rw [if_pos h]; rfl
theorem gFast {x : UInt32} (h : (mS μ a).1 = 11 ∧ mInb j (mS μ a).2) (kk : mGo G (y, is, L, st, mUF μ a j.toNatClampNeg x) r) : mGo G (y, (pc, .fastore, ln, aux, pl) :: is, L, .float x :: .int j :: .ref a :: st, μ) r := by
  refine mGo.step ?_ kk
  simp only [mStep, mX, mAst]
  rw [if_pos h]; rfl
theorem gBast (h : (mS μ a).1 = 12 ∧ mInb j (mS μ a).2) (h2 : x = 0 ∨ x = 1) (kk : mGo G (y, is, L, st, mUI μ a j.toNatClampNeg x) r) : mGo G (y, (pc, .bastore, ln, aux, pl) :: is, L, .int x :: .int j :: .ref a :: st, μ) r := by
  refine mGo.step ?_ kk
  simp only [mStep, mX, mAst]
  rw [if_pos h, gZ h2]; rfl
theorem gAast {t q : Nat} (h : (mS μ a).1 = 20 + t ∧ mInb j (mS μ a).2) (h2 : (mS μ q).1 = t ∧ t < 10) (kk : mGo G (y, is, L, st, mUP μ a j.toNatClampNeg q) r) : mGo G (y, (pc, .aastore, ln, [t], pl) :: is, L, .ref q :: .int j :: .ref a :: st, μ) r := by
  refine mGo.step ?_ kk
  simp only [mStep, mX, mAst]
  rw [if_pos h2, if_pos h]; rfl
theorem gAlen (h : (mS μ a).1 = 98) (kk : mGo G (y, is, L, .int (Int32.ofNat (mS μ a).2) :: st, μ) r) : mGo G (y, (pc, .arraylength, ln, aux, pl) :: is, L, .ref a :: st, μ) r := by
  refine mGo.step ?_ kk
  simp only [mStep, mX, if_pos h, mOk1]
theorem gDiv {b d : Int32} (h : ¬ b = 0) (kk : mGo G (y, is, L, .int (d / b) :: st, μ) r) : mGo G (y, (pc, .idiv, ln, aux, pl) :: is, L, .int b :: .int d :: st, μ) r := by
  refine mGo.step ?_ kk
  simp only [mStep, mX, if_neg h, mOk1]
theorem gRem {b d : Int32} (h : ¬ b = 0) (kk : mGo G (y, is, L, .int (d - d / b * b) :: st, μ) r) : mGo G (y, (pc, .irem, ln, aux, pl) :: is, L, .int b :: .int d :: st, μ) r := by
  refine mGo.step ?_ kk
  simp only [mStep, mX, if_neg h, mOk1]
theorem gFadd {b d : UInt32} (h : FP.fadd d b &&& 0x7fffffff ≤ 0x7f800000) (kk : mGo G (y, is, L, .float (FP.fadd d b) :: st, μ) r) : mGo G (y, (pc, .fadd, ln, aux, pl) :: is, L, .float b :: .float d :: st, μ) r := by
  refine mGo.step ?_ kk
  simp only [mStep, mX, mFl, if_pos h]
theorem gFsub {b d : UInt32} (h : FP.fsub d b &&& 0x7fffffff ≤ 0x7f800000) (kk : mGo G (y, is, L, .float (FP.fsub d b) :: st, μ) r) : mGo G (y, (pc, .fsub, ln, aux, pl) :: is, L, .float b :: .float d :: st, μ) r := by
  refine mGo.step ?_ kk
  simp only [mStep, mX, mFl, if_pos h]
theorem gFmul {b d : UInt32} (h : FP.fmul d b &&& 0x7fffffff ≤ 0x7f800000) (kk : mGo G (y, is, L, .float (FP.fmul d b) :: st, μ) r) : mGo G (y, (pc, .fmul, ln, aux, pl) :: is, L, .float b :: .float d :: st, μ) r := by
  refine mGo.step ?_ kk
  simp only [mStep, mX, mFl, if_pos h]
theorem gFdiv {b d : UInt32} (h : FP.fdiv d b &&& 0x7fffffff ≤ 0x7f800000) (kk : mGo G (y, is, L, .float (FP.fdiv d b) :: st, μ) r) : mGo G (y, (pc, .fdiv, ln, aux, pl) :: is, L, .float b :: .float d :: st, μ) r := by
  refine mGo.step ?_ kk
  simp only [mStep, mX, mFl, if_pos h]
theorem gBrT {p : Prop} [Decidable p] {t : Nat} {cf : mCf} (h : mStep G cf = mBr G p y is L st μ t) (hp : p) (kk : mGo G (y, mSeek t (rC (G y)), L, st, μ) r) : mGo G cf r := by
  refine mGo.step (h.trans ?_) kk
  simp only [mBr, if_pos hp]
theorem gBrF {p : Prop} [Decidable p] {t : Nat} {cf : mCf} (h : mStep G cf = mBr G p y is L st μ t) (hp : ¬ p) (kk : mGo G (y, is, L, st, μ) r) : mGo G cf r := by
  refine mGo.step (h.trans ?_) kk
  simp only [mBr, if_neg hp]
theorem gTs1 {q : Int} {t d : Nat} {ts : List Nat} {code : List mIns} {w : Int32} (h : x = w) (hw : Int32.ofInt q = w) (kk : mGo G (y, mSeek t code, L, st, μ) r) : mGo G (y, mSeek (mTs x q (t :: ts) d) code, L, st, μ) r := by
  rw [show mTs x q (t :: ts) d = t from if_pos (by rw [hw]; exact h)]; exact kk
theorem gTs0 {q : Int} {t d : Nat} {ts : List Nat} {code : List mIns} {w : Int32} (h : ¬ x = w) (hw : Int32.ofInt q = w) (kk : mGo G (y, mSeek (mTs x (q + 1) ts d) code, L, st, μ) r) : mGo G (y, mSeek (mTs x q (t :: ts) d) code, L, st, μ) r := by
  rw [show mTs x q (t :: ts) d = mTs x (q + 1) ts d from if_neg (by rw [hw]; exact h)]; exact kk
theorem gLs1 {p : Int × Int} {ps : List (Int × Int)} {t d : Nat} {ts : List Nat} {code : List mIns} {w : Int32} (h : x = w) (hw : Int32.ofInt p.1 = w) (kk : mGo G (y, mSeek t code, L, st, μ) r) : mGo G (y, mSeek (mLs x (p :: ps) (t :: ts) d) code, L, st, μ) r := by
  rw [show mLs x (p :: ps) (t :: ts) d = t from (by simp only [mLs]; exact if_pos (by rw [hw]; exact h))]; exact kk
theorem gLs0 {p : Int × Int} {ps : List (Int × Int)} {t d : Nat} {ts : List Nat} {code : List mIns} {w : Int32} (h : ¬ x = w) (hw : Int32.ofInt p.1 = w) (kk : mGo G (y, mSeek (mLs x ps ts d) code, L, st, μ) r) : mGo G (y, mSeek (mLs x (p :: ps) (t :: ts) d) code, L, st, μ) r := by
  rw [show mLs x (p :: ps) (t :: ts) d = mLs x ps ts d from (by simp only [mLs]; exact if_neg (by rw [hw]; exact h))]; exact kk
theorem gObj {z n : Nat} (h : ¬ a = 0) (hc : mCat st ≤ 8) (kk : mGo G (y, is, L, st, μ) r) : mGo G (y, (pc, .invokespecial i, ln, [z, n, 2], pl) :: is, L, .ref a :: st, μ) r := by
  refine mGo.step ?_ kk
  simp only [mStep, mX, mCall]
  rw [if_pos ⟨h, hc⟩]; rfl
/-- a call of an instance method or a constructor -/
theorem gCall {z n f kind : Nat} {As rest : List Value} {cf : mCf} {u : Option Value} {μ1 : mM} (h : mStep G cf = mCall G kind y is L (As.reverse ++ .ref a :: rest) μ [z, n, f]) (hf : f ≠ 2) (hk0 : kind ≠ 0) (hk : rK (G z) = kind ∧ rN (G z) = n) (hn : As.length = n) (htag : (mS μ a).1 = rO (G z)) (hcat : mCat rest ≤ 8) (hl : (mArgs (.ref a :: As)).length ≤ rL (G z)) (hc : mEv G z (.ref a :: As) μ u μ1) (kk : mGo G (y, is, L, u.toList ++ rest, μ1) r) : mGo G cf r := by
  refine mGo.call (h.trans ?_) hc kk
  subst hn
  have e1 : (As.reverse ++ Value.ref a :: rest).drop As.length = .ref a :: rest := by rw [← List.length_reverse]; exact List.drop_left
  have e2 : ((As.reverse ++ Value.ref a :: rest).take As.length).reverse = As := by rw [← List.length_reverse, List.take_left, List.reverse_reverse]
  unfold mCall
  split
  · rename_i heq
    simp only [List.cons.injEq] at heq
    exact absurd heq.2.2.1 hf
  · rename_i z1 n1 f1 hf1 heq
    simp only [List.cons.injEq] at heq
    obtain ⟨rfl, rfl, rfl, -⟩ := heq
    rw [if_pos hk, if_neg hk0, e1, e2]
    simp only
    rw [if_pos ⟨htag, by simp, hcat, hl⟩]
  · rename_i h1 h2
    exact absurd rfl (h2 z As.length f)
theorem gIret (hT : rT (G y) = some .int) : mGo G (y, (pc, .ireturn, ln, aux, pl) :: is, L, [.int x], μ) (some (.int x), μ) := by
  refine mGo.ret (c := (y, (pc, .ireturn, ln, aux, pl) :: is, L, [.int x], μ)) ?_
  simp only [mStep, mX]
  rw [if_pos (Or.inl hT)]
theorem gZret (hT : rT (G y) = some .boolean) (h : x = 0 ∨ x = 1) : mGo G (y, (pc, .ireturn, ln, aux, pl) :: is, L, [.int x], μ) (some (.int x), μ) := by
  refine mGo.ret (c := (y, (pc, .ireturn, ln, aux, pl) :: is, L, [.int x], μ)) ?_
  simp only [mStep, mX]
  rw [if_pos (Or.inr ⟨hT, h⟩)]
theorem gLret {x : Int64} (hT : rT (G y) = some .long) : mGo G (y, (pc, .lreturn, ln, aux, pl) :: is, L, [.long x], μ) (some (.long x), μ) := by
  refine mGo.ret (c := (y, (pc, .lreturn, ln, aux, pl) :: is, L, [.long x], μ)) ?_
  simp only [mStep, mX]
  rw [if_pos hT]
theorem gFret {x : UInt32} (hT : rT (G y) = some .float) : mGo G (y, (pc, .freturn, ln, aux, pl) :: is, L, [.float x], μ) (some (.float x), μ) := by
  refine mGo.ret (c := (y, (pc, .freturn, ln, aux, pl) :: is, L, [.float x], μ)) ?_
  simp only [mStep, mX]
  rw [if_pos hT]
theorem gAret {C : String} (hT : rT (G y) = some (.object C)) : mGo G (y, (pc, .areturn, ln, aux, pl) :: is, L, [.ref a], μ) (some (.ref a), μ) := by
  refine mGo.ret (c := (y, (pc, .areturn, ln, aux, pl) :: is, L, [.ref a], μ)) ?_
  simp only [mStep, mX, hT]
theorem gVret (hT : rT (G y) = none) : mGo G (y, (pc, .return_, ln, aux, pl) :: is, L, [], μ) (none, μ) := by
  refine mGo.ret (c := (y, (pc, .return_, ln, aux, pl) :: is, L, [], μ)) ?_
  simp only [mStep, mX]
  rw [if_pos hT]
/-- a store beside a slot of which only is known that it is no long -/
theorem gSt1 {cf : mCf} {q : Nat} {w : Value} (h : mStep G cf = (mSt1 L q w).bind fun L => mOk1 y is L st μ) (h1 : q < L.length) (h2 : mNotL (mNth L (q - 1)) = true) (kk : mGo G (y, is, L.set q w, st, μ) r) : mGo G cf r := by
  refine mGo.step (h.trans ?_) kk
  simp only [mSt1, if_pos (And.intro h1 h2), Option.bind_some, mOk1]
end RL
