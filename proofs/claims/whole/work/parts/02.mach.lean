/-! THE MINI MACHINE: a small deterministic machine over the same instructions, with memory as tables by cell number; sound for the machine (part 03) -/
/-- memory: ints, floats, longs, references (0 is null), shapes (kind, length), the next cell, how many slots were made -/
abbrev mM : Type := (Nat → Nat → Int32) × (Nat → Nat → UInt32) × (Nat → Nat → Int64) × (Nat → Nat → Nat) × (Nat → Nat × Nat) × Nat × Nat
abbrev mI (μ : mM) : Nat → Nat → Int32 := μ.1
abbrev mF (μ : mM) : Nat → Nat → UInt32 := μ.2.1
abbrev mJ (μ : mM) : Nat → Nat → Int64 := μ.2.2.1
abbrev mP (μ : mM) : Nat → Nat → Nat := μ.2.2.2.1
abbrev mS (μ : mM) : Nat → Nat × Nat := μ.2.2.2.2.1
abbrev mNx (μ : mM) : Nat := μ.2.2.2.2.2.1
abbrev mSl (μ : mM) : Nat := μ.2.2.2.2.2.2
def mU {α : Type} (f : Nat → Nat → α) (a k : Nat) (v : α) : Nat → Nat → α := fun a' k' => if a' = a ∧ k' = k then v else f a' k'
def mU1 {α : Type} (f : Nat → α) (a : Nat) (v : α) : Nat → α := fun a' => if a' = a then v else f a'
/-- a whole row laid anew -/
def mUr {α : Type} (f : Nat → Nat → α) (a : Nat) (v : α) : Nat → Nat → α := fun a' k' => if a' = a then v else f a' k'
/-- kinds of slots: 0 int, 1 float, 2 long, 3 reference, 4 boolean -/
def mTc : FieldType → Nat
  | .float => 1
  | .long => 2
  | .boolean => 4
  | .object _ => 3
  | .array _ => 3
  | _ => 0
def mTy (t k : Nat) : Nat := if t < 10 then mTc (mFt t k) else if t = 10 then 0 else if t = 11 then 1 else if t = 12 then 4 else 3
def mVl (μ : mM) (ty a k : Nat) : Value := match ty with
  | 1 => .float (mF μ a k)
  | 2 => .long (mJ μ a k)
  | 3 => .ref (mP μ a k)
  | _ => .int (mI μ a k)
def mSet (μ : mM) (ty a k : Nat) (v : Value) : Option mM := match ty, v with
  | 0, .int x => some (mU μ.1 a k x, μ.2)
  | 4, .int x => if x = 0 ∨ x = 1 then some (mU μ.1 a k x, μ.2) else none
  | 1, .float x => some (μ.1, mU μ.2.1 a k x, μ.2.2)
  | 2, .long x => some (μ.1, μ.2.1, mU μ.2.2.1 a k x, μ.2.2.2)
  | 3, .ref q => some (μ.1, μ.2.1, μ.2.2.1, mU μ.2.2.2.1 a k q, μ.2.2.2.2)
  | _, _ => none
/-- a new cell of a shape, its slots 0 -/
def mNew (μ : mM) (t n : Nat) : mM := (mUr μ.1 (mNx μ) 0, mUr μ.2.1 (mNx μ) 0, mUr μ.2.2.1 (mNx μ) 0, mUr μ.2.2.2.1 (mNx μ) 0, mU1 μ.2.2.2.2.1 (mNx μ) (t, n), mNx μ + 1, mSl μ + n)
/-- a method: name, bytes, locals, answer, class, room (frames, locals), parameters, kind (0 static, 1 instance, 2 constructor), places of its words, code -/
abbrev mRec : Type := MethodName × ByteArray × Nat × Option FieldType × Nat × (Nat × Nat) × Nat × Nat × List (Nat × Nat) × List mIns
abbrev rY (r : mRec) : MethodName := r.1
abbrev rB (r : mRec) : ByteArray := r.2.1
abbrev rL (r : mRec) : Nat := r.2.2.1
abbrev rT (r : mRec) : Option FieldType := r.2.2.2.1
abbrev rO (r : mRec) : Nat := r.2.2.2.2.1
abbrev rFr (r : mRec) : Nat := r.2.2.2.2.2.1.1
abbrev rLo (r : mRec) : Nat := r.2.2.2.2.2.1.2
abbrev rN (r : mRec) : Nat := r.2.2.2.2.2.2.1
abbrev rK (r : mRec) : Nat := r.2.2.2.2.2.2.2.1
abbrev rPl (r : mRec) : List (Nat × Nat) := r.2.2.2.2.2.2.2.2.1
abbrev rC (r : mRec) : List mIns := r.2.2.2.2.2.2.2.2.2
/-- method number, code that is left, locals, stack, memory -/
abbrev mCf : Type := Nat × List mIns × List Value × List Value × mM
abbrev mOut : Type := mCf ⊕ ((Nat × List Value × mCf) ⊕ Option Value)
def mSeek (t : Nat) : List mIns → List mIns
  | [] => []
  | e :: r => if e.1 = t then e :: r else mSeek t r
def mNth : List Value → Nat → Value
  | [], _ => .retAddr 0
  | v :: _, 0 => v
  | _ :: r, k + 1 => mNth r k
def mNotL : Value → Bool
  | .long _ => false
  | .double _ => false
  | _ => true
/-- a store of a value of one slot, of two slots -/
def mSt1 (L : List Value) (k : Nat) (v : Value) : Option (List Value) := if k < L.length ∧ (mNotL (mNth L (k - 1)) = true) then some (L.set k v) else none
def mSt2 (L : List Value) (k : Nat) (v : Value) : Option (List Value) := if k + 1 < L.length ∧ (mNotL (mNth L (k - 1)) = true) then some ((L.set k v).set (k + 1) (.retAddr 0)) else none
def mOk1 (y : Nat) (is : List mIns) (L st : List Value) (μ : mM) : Option mOut := some (.inl (y, is, L, st, μ))
def mBr (G : Nat → mRec) (c : Prop) [Decidable c] (y : Nat) (is : List mIns) (L st : List Value) (μ : mM) (t : Nat) : Option mOut := if c then some (.inl (y, mSeek t (rC (G y)), L, st, μ)) else some (.inl (y, is, L, st, μ))
/-- which place a switch goes to -/
def mTs (x : Int32) : Int → List Nat → Nat → Nat
  | _, [], d => d
  | k, t :: r, d => if x = Int32.ofInt k then t else mTs x (k + 1) r d
def mLs (x : Int32) : List (Int × Int) → List Nat → Nat → Nat
  | p :: ps, t :: r, d => if x = Int32.ofInt p.1 then t else mLs x ps r d
  | _, _, d => d
def mCat (st : List Value) : Nat := (st.map fun v => v.category).sum
/-- locals at a method's entry -/
def mArgs : List Value → List Value
  | [] => []
  | v :: vs => if mNotL v = true then v :: mArgs vs else v :: .retAddr 0 :: mArgs vs
def mLoc (n : Nat) (as : List Value) : List Value := mArgs as ++ List.replicate (n - (mArgs as).length) (.retAddr 0)
/-- a call: static (0), instance (1), constructor (2) -/
def mCall (G : Nat → mRec) (kind : Nat) (y : Nat) (is : List mIns) (L st : List Value) (μ : mM) : List Nat → Option mOut
  | [_, _, 2] => match kind, st with
    | 2, .ref a :: st => if a ≠ 0 ∧ mCat st ≤ 8 then mOk1 y is L st μ else none
    | _, _ => none
  | [z, n, _] => if rK (G z) = kind ∧ rN (G z) = n then
      (if kind = 0 then (if n ≤ st.length ∧ mCat (st.drop n) ≤ 8 ∧ (mArgs (st.take n).reverse).length ≤ rL (G z) then some (.inr (.inl (z, (st.take n).reverse, (y, is, L, st.drop n, μ)))) else none)
       else match st.drop n with
        | .ref a :: rest => if (mS μ a).1 = rO (G z) ∧ n ≤ st.length ∧ mCat rest ≤ 8 ∧ (mArgs (.ref a :: (st.take n).reverse)).length ≤ rL (G z) then some (.inr (.inl (z, .ref a :: (st.take n).reverse, (y, is, L, rest, μ)))) else none
        | _ => none)
    else none
  | _ => none
def mFl (y : Nat) (is : List mIns) (L st : List Value) (μ : mM) (r : UInt32) : Option mOut := if r &&& 0x7fffffff ≤ 0x7f800000 then some (.inl (y, is, L, .float r :: st, μ)) else none
def mIn (i : Int32) (n : Nat) : Prop := ¬ (i < 0 ∨ n ≤ i.toNatClampNeg)
def mLd (y : Nat) (is : List mIns) (L st : List Value) (μ : mM) (ty : Nat) (k : Nat) : Option mOut := match ty, mNth L k with
  | 0, .int x => mOk1 y is L (.int x :: st) μ
  | 1, .float x => mOk1 y is L (.float x :: st) μ
  | 2, .long x => mOk1 y is L (.long x :: st) μ
  | 3, .ref x => mOk1 y is L (.ref x :: st) μ
  | _, _ => none
def mStv (y : Nat) (is : List mIns) (L st : List Value) (μ : mM) (ty : Nat) (k : Nat) : Option mOut := match ty, st with
  | 0, .int x :: st => (mSt1 L k (.int x)).bind fun L => mOk1 y is L st μ
  | 1, .float x :: st => (mSt1 L k (.float x)).bind fun L => mOk1 y is L st μ
  | 2, .long x :: st => (mSt2 L k (.long x)).bind fun L => mOk1 y is L st μ
  | 3, .ref x :: st => (mSt1 L k (.ref x)).bind fun L => mOk1 y is L st μ
  | _, _ => none
def mAld (y : Nat) (is : List mIns) (L st : List Value) (μ : mM) (t ty : Nat) : Option mOut := match st with
  | .int j :: .ref a :: st => if (mS μ a).1 = t ∧ ¬ (j < 0 ∨ (mS μ a).2 ≤ j.toNatClampNeg) then mOk1 y is L (mVl μ ty a j.toNatClampNeg :: st) μ else none
  | _ => none
def mAst (y : Nat) (is : List mIns) (L st : List Value) (μ : mM) (t ty : Nat) : Option mOut := match st with
  | v :: .int j :: .ref a :: st => if (mS μ a).1 = t ∧ ¬ (j < 0 ∨ (mS μ a).2 ≤ j.toNatClampNeg) then (mSet μ ty a j.toNatClampNeg v).bind fun μ => mOk1 y is L st μ else none
  | _ => none
def mNa (y : Nat) (is : List mIns) (L st : List Value) (μ : mM) (t : Nat) : Option mOut := match st with
  | .int n :: st => if ¬ n < 0 ∧ n.toNatClampNeg ≤ 10000 then mOk1 y is L (.ref (mNx μ) :: st) (mNew μ t n.toNatClampNeg) else none
  | _ => none
def mAtag : ArrayType → Nat
  | .int => 10
  | .float => 11
  | .boolean => 12
  | _ => 99
def mMin (a b : Int32) : Int32 := if b < a then b else a
def mMax (a b : Int32) : Int32 := if a < b then b else a
/-- one instruction -/
def mX (G : Nat → mRec) (y : Nat) (is : List mIns) (L st : List Value) (μ : mM) (aux : List Nat) : Instr → Option mOut
  | .iload_n k => mLd y is L st μ 0 k
  | .iload k => mLd y is L st μ 0 k
  | .fload_n k => mLd y is L st μ 1 k
  | .fload k => mLd y is L st μ 1 k
  | .lload_n k => mLd y is L st μ 2 k
  | .lload k => mLd y is L st μ 2 k
  | .aload_n k => mLd y is L st μ 3 k
  | .aload k => mLd y is L st μ 3 k
  | .istore_n k => mStv y is L st μ 0 k
  | .istore k => mStv y is L st μ 0 k
  | .fstore_n k => mStv y is L st μ 1 k
  | .fstore k => mStv y is L st μ 1 k
  | .lstore_n k => mStv y is L st μ 2 k
  | .lstore k => mStv y is L st μ 2 k
  | .astore_n k => mStv y is L st μ 3 k
  | .astore k => mStv y is L st μ 3 k
  | .iinc k n => match mNth L k with
    | .int x => (mSt1 L k (.int (x + Int32.ofInt n))).bind fun L => mOk1 y is L st μ
    | _ => none
  | .iconst n => mOk1 y is L (.int (Int32.ofInt n) :: st) μ
  | .bipush n => mOk1 y is L (.int (Int8.ofInt n).toInt32 :: st) μ
  | .sipush n => mOk1 y is L (.int (Int16.ofInt n).toInt32 :: st) μ
  | .lconst n => mOk1 y is L (.long (Int64.ofNat (n : Nat)) :: st) μ
  | .fconst n => match n with
    | 0 => mOk1 y is L (.float FP.fconst0 :: st) μ
    | 1 => mOk1 y is L (.float FP.fconst1 :: st) μ
    | 2 => mOk1 y is L (.float FP.fconst2 :: st) μ
  | .aconst_null => mOk1 y is L (.ref 0 :: st) μ
  | .ldc _ => match aux with
    | [v] => mOk1 y is L (.float (UInt32.ofNat v) :: st) μ
    | _ => none
  | .ldc_w _ => match aux with
    | [v] => mOk1 y is L (.float (UInt32.ofNat v) :: st) μ
    | _ => none
  | .ldc2_w _ => match aux with
    | [v] => mOk1 y is L (.long (Int64.ofNat v) :: st) μ
    | _ => none
  | .iadd => match st with
    | .int b :: .int a :: st => mOk1 y is L (.int (a + b) :: st) μ
    | _ => none
  | .isub => match st with
    | .int b :: .int a :: st => mOk1 y is L (.int (a - b) :: st) μ
    | _ => none
  | .imul => match st with
    | .int b :: .int a :: st => mOk1 y is L (.int (a * b) :: st) μ
    | _ => none
  | .iand => match st with
    | .int b :: .int a :: st => mOk1 y is L (.int (a &&& b) :: st) μ
    | _ => none
  | .ior => match st with
    | .int b :: .int a :: st => mOk1 y is L (.int (a ||| b) :: st) μ
    | _ => none
  | .ishl => match st with
    | .int b :: .int a :: st => mOk1 y is L (.int (a <<< (b &&& 31)) :: st) μ
    | _ => none
  | .ishr => match st with
    | .int b :: .int a :: st => mOk1 y is L (.int (a >>> (b &&& 31)) :: st) μ
    | _ => none
  | .idiv => match st with
    | .int b :: .int a :: st => if b = 0 then none else mOk1 y is L (.int (a / b) :: st) μ
    | _ => none
  | .irem => match st with
    | .int b :: .int a :: st => if b = 0 then none else mOk1 y is L (.int (a - a / b * b) :: st) μ
    | _ => none
  | .ladd => match st with
    | .long b :: .long a :: st => mOk1 y is L (.long (a + b) :: st) μ
    | _ => none
  | .lsub => match st with
    | .long b :: .long a :: st => mOk1 y is L (.long (a - b) :: st) μ
    | _ => none
  | .lmul => match st with
    | .long b :: .long a :: st => mOk1 y is L (.long (a * b) :: st) μ
    | _ => none
  | .lcmp => match st with
    | .long b :: .long a :: st => mOk1 y is L (.int (lg_cmp a b) :: st) μ
    | _ => none
  | .i2l => match st with
    | .int a :: st => mOk1 y is L (.long a.toInt64 :: st) μ
    | _ => none
  | .i2f => match st with
    | .int a :: st => mOk1 y is L (.float (FP.i2f a) :: st) μ
    | _ => none
  | .f2i => match st with
    | .float a :: st => mOk1 y is L (.int (FP.f2i a) :: st) μ
    | _ => none
  | .fadd => match st with
    | .float b :: .float a :: st => mFl y is L st μ (FP.fadd a b)
    | _ => none
  | .fsub => match st with
    | .float b :: .float a :: st => mFl y is L st μ (FP.fsub a b)
    | _ => none
  | .fmul => match st with
    | .float b :: .float a :: st => mFl y is L st μ (FP.fmul a b)
    | _ => none
  | .fdiv => match st with
    | .float b :: .float a :: st => mFl y is L st μ (FP.fdiv a b)
    | _ => none
  | .fcmp op => match st with
    | .float b :: .float a :: st => mOk1 y is L (.int (Op.cmpValue (FP.fcmp a b) op) :: st) μ
    | _ => none
  | .dup => match st with
    | v :: st => if mNotL v = true then mOk1 y is L (v :: v :: st) μ else none
    | _ => none
  | .dup2 => match st with
    | v :: w :: st => if mNotL v = true ∧ mNotL w = true then mOk1 y is L (v :: w :: v :: w :: st) μ else none
    | _ => none
  | .pop => match st with
    | v :: st => if mNotL v = true then mOk1 y is L st μ else none
    | _ => none
  | .goto _ => match aux with
    | [t] => mOk1 y (mSeek t (rC (G y))) L st μ
    | _ => none
  | .ifCond c _ => match st, aux with
    | .int x :: st, [t] => match c with
      | .eq => mBr G (x = 0) y is L st μ t
      | .ne => mBr G (¬ x = 0) y is L st μ t
      | .lt => mBr G (x < 0) y is L st μ t
      | .ge => mBr G (0 ≤ x) y is L st μ t
      | .gt => mBr G (0 < x) y is L st μ t
      | .le => mBr G (x ≤ 0) y is L st μ t
    | _, _ => none
  | .if_icmp c _ => match st, aux with
    | .int b :: .int a :: st, [t] => match c with
      | .eq => mBr G (a = b) y is L st μ t
      | .ne => mBr G (¬ a = b) y is L st μ t
      | .lt => mBr G (a < b) y is L st μ t
      | .ge => mBr G (b ≤ a) y is L st μ t
      | .gt => mBr G (b < a) y is L st μ t
      | .le => mBr G (a ≤ b) y is L st μ t
    | _, _ => none
  | .ifnull _ => match st, aux with
    | .ref a :: st, [t] => mBr G (a = 0) y is L st μ t
    | _, _ => none
  | .ifnonnull _ => match st, aux with
    | .ref a :: st, [t] => mBr G (¬ a = 0) y is L st μ t
    | _, _ => none
  | .tableswitch _ lo _ _ => match st, aux with
    | .int x :: st, d :: ts => mOk1 y (mSeek (mTs x lo ts d) (rC (G y))) L st μ
    | _, _ => none
  | .lookupswitch _ ps => match st, aux with
    | .int x :: st, d :: ts => mOk1 y (mSeek (mLs x ps.toList ts d) (rC (G y))) L st μ
    | _, _ => none
  | .getfield _ => match st, aux with
    | .ref a :: st, [c, k, ty] => if (mS μ a).1 = c then mOk1 y is L (mVl μ ty a k :: st) μ else none
    | _, _ => none
  | .putfield _ => match st, aux with
    | v :: .ref a :: st, [c, k, ty] => if (mS μ a).1 = c then (mSet μ ty a k v).bind fun μ => mOk1 y is L st μ else none
    | _, _ => none
  | .iaload => match st with
    | .int j :: .ref a :: st => if ((mS μ a).1 = 10 ∨ (mS μ a).1 = 98) ∧ ¬ (j < 0 ∨ (mS μ a).2 ≤ j.toNatClampNeg) then mOk1 y is L (.int (mI μ a j.toNatClampNeg) :: st) μ else none
    | _ => none
  | .faload => mAld y is L st μ 11 1
  | .baload => mAld y is L st μ 12 4
  | .aaload => match aux with
    | [t] => mAld y is L st μ (20 + t) 3
    | _ => none
  | .iastore => mAst y is L st μ 10 0
  | .fastore => mAst y is L st μ 11 1
  | .bastore => mAst y is L st μ 12 4
  | .aastore => match st, aux with
    | .ref q :: _, [t] => if (mS μ q).1 = t ∧ t < 10 then mAst y is L st μ (20 + t) 3 else none
    | _, _ => none
  | .arraylength => match st with
    | .ref a :: st => if (mS μ a).1 = 98 then mOk1 y is L (.int (Int32.ofNat (mS μ a).2) :: st) μ else none
    | _ => none
  | .new _ => match aux with
    | [c] => if c < 10 then mOk1 y is L (.ref (mNx μ) :: st) (mNew μ c (mN c)) else none
    | _ => none
  | .newarray t => mNa y is L st μ (mAtag t)
  | .anewarray _ => match aux with
    | [c] => mNa y is L st μ (20 + c)
    | _ => none
  | .invokestatic _ => match aux with
    | [w, _, 3] => match st with
      | .int b :: .int a :: st => if mCat st ≤ 8 then mOk1 y is L (.int (if w = 0 then mMin a b else mMax a b) :: st) μ else none
      | _ => none
    | aux => mCall G 0 y is L st μ aux
  | .invokevirtual _ => mCall G 1 y is L st μ aux
  | .invokespecial _ => mCall G 2 y is L st μ aux
  | .ireturn => match st with
    | [.int x] => if rT (G y) = some .int ∨ (rT (G y) = some .boolean ∧ (x = 0 ∨ x = 1)) then some (.inr (.inr (some (.int x)))) else none
    | _ => none
  | .lreturn => match st with
    | [.long x] => if rT (G y) = some .long then some (.inr (.inr (some (.long x)))) else none
    | _ => none
  | .freturn => match st with
    | [.float x] => if rT (G y) = some .float then some (.inr (.inr (some (.float x)))) else none
    | _ => none
  | .areturn => match st, rT (G y) with
    | [.ref a], some (.object _) => some (.inr (.inr (some (.ref a))))
    | _, _ => none
  | .return_ => match st with
    | [] => if rT (G y) = none then some (.inr (.inr none)) else none
    | _ => none
  | _ => none
def mStep (G : Nat → mRec) : mCf → Option mOut
  | (y, e :: is, L, st, μ) => mX G y is L st μ e.2.2.2.1 e.2.1
  | _ => none
def mEnter (G : Nat → mRec) (z : Nat) (as : List Value) (μ : mM) : mCf := (z, rC (G z), mLoc (rL (G z)) as, [], μ)
/-- a configuration comes to an answer -/
def mGo (G : Nat → mRec) (c : mCf) (r : Option Value × mM) : Prop := ∀ P : mCf → Option Value × mM → Prop,
  (∀ c c' r, mStep G c = some (.inl c') → P c' r → P c r) →
  (∀ (c : mCf) z as y is L st μ v μ' r, mStep G c = some (.inr (.inl (z, as, (y, is, L, st, μ)))) → P (mEnter G z as μ) (v, μ') → P (y, is, L, v.toList ++ st, μ') r → P c r) →
  (∀ (c : mCf) v, mStep G c = some (.inr (.inr v)) → P c (v, c.2.2.2.2)) → P c r
def mEv (G : Nat → mRec) (z : Nat) (as : List Value) (μ : mM) (v : Option Value) (μ' : mM) : Prop := mGo G (mEnter G z as μ) (v, μ')
theorem mGo.step {G : Nat → mRec} {c c' : mCf} {r : Option Value × mM} (h : mStep G c = some (.inl c')) (k : mGo G c' r) : mGo G c r :=
  fun P h1 h2 h3 => h1 c c' r h (k P h1 h2 h3)
theorem mGo.call {G : Nat → mRec} {c : mCf} {z y : Nat} {as L st : List Value} {is : List mIns} {μ μ' : mM} {v : Option Value} {r : Option Value × mM} (h : mStep G c = some (.inr (.inl (z, as, (y, is, L, st, μ))))) (hc : mEv G z as μ v μ') (k : mGo G (y, is, L, v.toList ++ st, μ') r) : mGo G c r :=
  fun P h1 h2 h3 => h2 c z as y is L st μ v μ' r h (hc P h1 h2 h3) (k P h1 h2 h3)
theorem mGo.ret {G : Nat → mRec} {c : mCf} {v : Option Value} (h : mStep G c = some (.inr (.inr v))) : mGo G c (v, c.2.2.2.2) :=
  fun P h1 h2 h3 => h3 c v h
/-- several plain steps -/
def mIt (G : Nat → mRec) : Nat → mCf → Option mCf
  | 0, c => some c
  | n + 1, c => match mStep G c with
    | some (.inl c') => mIt G n c'
    | _ => none
theorem mGo.steps {G : Nat → mRec} (n : Nat) {c c' : mCf} {r : Option Value × mM} (h : mIt G n c = some c') (k : mGo G c' r) : mGo G c r := by
  induction n generalizing c with
  | zero =>
    have e : c = c' := Option.some.inj h
    rw [e]; exact k
  | succ n ih =>
    unfold mIt at h
    split at h
    · rename_i c1 h1
      exact mGo.step h1 (ih h)
    · cases h
