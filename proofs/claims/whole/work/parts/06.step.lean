/-! the checks of the code, and one step of the mini machine in the machine -/
def mLen : Instr → Nat
  | .iload _ | .fload _ | .lload _ | .aload _ | .istore _ | .fstore _ | .lstore _ | .astore _ | .bipush _ | .ldc _ | .newarray _ => 2
  | .sipush _ | .iinc _ _ | .goto _ | .ifCond _ _ | .if_icmp _ _ | .ifnull _ | .ifnonnull _ | .getfield _ | .putfield _ | .invokevirtual _ | .invokestatic _ | .invokespecial _ | .new _ | .anewarray _ | .ldc_w _ | .ldc2_w _ => 3
  | .tableswitch _ _ _ _ => 0
  | .lookupswitch _ _ => 0
  | _ => 1
/-- the word of the tables that an instruction needs -/
def mLk (G : Nat → mRec) (y : Nat) (aux : List Nat) : Instr → Option Cond
  | .getfield i => match aux with
    | [c, k, _] => some (.fieldLink (mR (rO (G y))) i (mTb c k).1 (mTb c k).2.1 (mTb c k).2.2.1)
    | _ => none
  | .putfield i => match aux with
    | [c, k, _] => some (.fieldLink (mR (rO (G y))) i (mTb c k).1 (mTb c k).2.1 (mTb c k).2.2.1)
    | _ => none
  | .invokestatic i => match aux with
    | [z, _, f] => if f = 3 then some (.methodLink (mR (rO (G y))) i (if z = 0 then Lib.Math.min.name else Lib.Math.max.name)) else if f = 0 then some (.methodLink (mR (rO (G y))) i (rY (G z))) else some (.methodLinkNest (mR (rO (G y))) i (rY (G z)) "TunnelFabric")
    | _ => none
  | .invokevirtual i => match aux with
    | [z, _, f] => if f = 0 then some (.methodLink (mR (rO (G y))) i (rY (G z))) else some (.methodLinkNest (mR (rO (G y))) i (rY (G z)) "TunnelFabric")
    | _ => none
  | .invokespecial i => match aux with
    | [z, _, f] => if f = 2 then some (.methodLink (mR (rO (G y))) i Lib.objectInit) else if f = 0 then some (.methodLink (mR (rO (G y))) i (rY (G z))) else some (.methodLinkNest (mR (rO (G y))) i (rY (G z)) "TunnelFabric")
    | _ => none
  | .new i => match aux with
    | [c] => some (.classLink (mR (rO (G y))) i (mR c))
    | _ => none
  | .anewarray i => match aux with
    | [c] => some (.classLink (mR (rO (G y))) i (mR c))
    | _ => none
  | .ldc i => match aux with
    | [v] => some (.constantFloat (mR (rO (G y))) i (UInt32.ofNat v))
    | _ => none
  | .ldc_w i => match aux with
    | [v] => some (.constantFloat (mR (rO (G y))) i (UInt32.ofNat v))
    | _ => none
  | .ldc2_w i => match aux with
    | [v] => some (.constantLong (mR (rO (G y))) i (Int64.ofNat v))
    | _ => none
  | _ => none
def mBrOk (pc : Nat) (o : Int) (aux : List Nat) : Bool := match aux with
  | [t] => decide ((pc : Int) + o = (t : Int))
  | _ => false
def mCallOk (G : Nat → mRec) (NM y : Nat) (aux : List Nat) : Bool := match aux with
  | [z, n, f] => if f = 2 then decide (1 ≤ rFr (G y)) && decide (20 ≤ rLo (G y)) else if f = 3 then decide (1 ≤ rFr (G y)) && decide (21 ≤ rLo (G y)) else decide (z < NM) && decide (rFr (G z) + 1 ≤ rFr (G y)) && decide (8 + (rL (G z) + 11) + rLo (G z) ≤ rLo (G y)) && decide (f ≤ 1)
  | _ => false
def mNo3 (aux : List Nat) : Bool := match aux with
  | [_, _, f] => decide (f ≠ 3)
  | _ => true
def mChk2 (G : Nat → mRec) (NM y pc : Nat) (aux : List Nat) : Instr → Bool
  | .goto o => mBrOk pc o aux
  | .ifCond _ o => mBrOk pc o aux
  | .if_icmp _ o => mBrOk pc o aux
  | .ifnull o => mBrOk pc o aux
  | .ifnonnull o => mBrOk pc o aux
  | .tableswitch d lo hi offs => match aux with
    | dt :: ts => decide ((pc : Int) + d = (dt : Int)) && decide (offs.toList.map (fun o => (pc : Int) + o) = ts.map (fun t : Nat => (t : Int))) && decide (hi = lo + (ts.length : Int) - 1) && decide (-1000 ≤ lo) && decide (hi ≤ 1000)
    | _ => false
  | .lookupswitch d ps => match aux with
    | dt :: ts => decide ((pc : Int) + d = (dt : Int)) && decide (ps.toList.map (fun p => (pc : Int) + p.2) = ts.map (fun t : Nat => (t : Int))) && (ps.toList.zip (ps.toList.drop 1)).all (fun (a, next) => a.1 < next.1) && ps.toList.all (fun p => decide (-1000 ≤ p.1) && decide (p.1 ≤ 1000))
    | _ => false
  | .getfield _ => match aux with
    | [c, k, ty] => decide (c < 10) && decide (k < mN c) && decide (ty = mTy c k)
    | _ => false
  | .putfield _ => match aux with
    | [c, k, ty] => decide (c < 10) && decide (k < mN c) && decide (ty = mTy c k) && (!(mTb c k).2.2.2 || (decide ((rY (G y)).name = "<init>") && decide ((mTb c k).1 = mR (rO (G y)))))
    | _ => false
  | .anewarray _ => match aux with
    | [c] => decide (c = 1 ∨ c = 4 ∨ c = 6)
    | _ => false
  | .aaload => match aux with
    | [c] => decide (c = 1 ∨ c = 4 ∨ c = 6)
    | _ => false
  | .aastore => match aux with
    | [c] => decide (c = 1 ∨ c = 4 ∨ c = 6)
    | _ => false
  | .newarray t => decide (t = .int ∨ t = .float ∨ t = .boolean)
  | .invokestatic _ => mCallOk G NM y aux
  | .invokevirtual _ => mCallOk G NM y aux && mNo3 aux
  | .invokespecial _ => mCallOk G NM y aux && mNo3 aux
  | _ => true
def mChk (G : Nat → mRec) (NM y : Nat) (en : mIns) : Bool :=
  decide (decode (rB (G y)) en.1 = .ok (en.2.1, en.2.2.1)) && (mLen en.2.1 == 0 || decide (en.2.2.1 = mLen en.2.1)) && (match mLk G y en.2.2.2.1 en.2.1 with
    | none => true
    | some w => decide (mWd en.2.2.2.2 = some w)) && mChk2 G NM y en.1 en.2.2.2.1 en.2.1
def mSeq : List mIns → Bool
  | a :: b :: r => decide (b.1 = a.1 + a.2.2.1) && mSeq (b :: r)
  | _ => true
/-- a method's words are in the tables -/
def mChkM (G : Nat → mRec) (z : Nat) : Bool := match rPl (G z) with
  | [p0, p1, p2, p3] => decide (mWd p0 = some (.code (rY (G z)) (rB (G z)) (rL (G z)) (rT (G z)))) && decide (mWd p1 = some (.initialized (rY (G z)).cls)) && (if rK (G z) = 0 then decide (mWd p2 = some (.static (rY (G z)))) else decide (mWd p2 = some (.instanceMethod (rY (G z))))) && (!(decide (rK (G z) = 1)) || decide (mWd p3 = some (.selects (rY (G z)).cls (rY (G z)) (rY (G z))))) &&
      decide ((rY (G z)).cls = mR (rO (G z))) && plainName (rY (G z)).cls && decide ((rY (G z)).cls ≠ "java/lang/invoke/MethodHandle") && decide ((rY (G z)).cls ≠ "java/lang/invoke/VarHandle") && decide ((parseMethodDescriptor (rY (G z)).desc).map (fun d => d.parameters.length) = some (rN (G z))) && (!(decide (rK (G z) = 2)) || (decide ((rY (G z)).name = "<init>") && decide (rT (G z) = none))) && decide (rK (G z) ≤ 2) && (decide (rK (G z) = 0) || decide (rO (G z) < 10))
  | _ => false
def mMathW : List Cond := [.static Lib.Math.min.name, .static Lib.Math.max.name, .initialized "java/lang/Math", .code Lib.Math.min.name Lib.Math.min.code 2 (some .int), .code Lib.Math.max.name Lib.Math.max.code 2 (some .int)]
/-- all that is checked of the program -/
def mOK (G : Nat → mRec) (NM : Nat) : Prop := (∀ y, ∀ en ∈ rC (G y), mChk G NM y en = true) ∧ (∀ y, mSeq (rC (G y)) = true) ∧ (∀ z, z < NM → mChkM G z = true) ∧ Cond.instanceMethod Lib.objectInit ∈ mGd ∧ Cond.code Lib.objectInit ⟨#[0xb1]⟩ 1 none ∈ mGd ∧ (∀ y en r, rC (G y) = en :: r → en.1 = 0) ∧ ∀ w ∈ mMathW, w ∈ mGd
theorem mSeek_head {t : Nat} : ∀ {l : List mIns} {en : mIns} {r : List mIns}, mSeek t l = en :: r → en.1 = t ∧ ∃ pre, l = pre ++ en :: r
  | [], en, r, h => by cases h
  | a :: l, en, r, h => by
    unfold mSeek at h
    split at h
    · rename_i ha
      cases h
      exact ⟨ha, [], rfl⟩
    · obtain ⟨h1, pre, h2⟩ := mSeek_head h
      exact ⟨h1, a :: pre, by rw [h2]; rfl⟩
theorem mSeq_next : ∀ {pre : List mIns} {a b : mIns} {r : List mIns}, mSeq (pre ++ a :: b :: r) = true → b.1 = a.1 + a.2.2.1
  | [], a, b, r, h => by
    simp only [List.nil_append, mSeq, Bool.and_eq_true, decide_eq_true_eq] at h
    exact h.1
  | [c], a, b, r, h => by
    simp only [List.cons_append, List.nil_append, mSeq, Bool.and_eq_true, decide_eq_true_eq] at h
    exact h.2.1
  | c :: d :: pre, a, b, r, h => by
    simp only [List.cons_append, mSeq, Bool.and_eq_true] at h
    exact mSeq_next (pre := d :: pre) h.2
def mCtx (G : Nat → mRec) (D : va_G) (cy : Nat → ClassId) (scr : Cell) (y : Nat) (p : Program) (R : Room) (s : State) (m : MethodId) (args : Array Value) (meth : Method) (c : Code) : Prop :=
  p.tables.exec = Jvm.exec ∧ c.code = rB (G y) ∧ c.maxLocals = rL (G y) ∧ s.vm.findClass (mR (rO (G y))) = some m.cls ∧ (∀ w ∈ mGd, w.before args s = true) ∧ mKn D cy scr s ∧ ((rY (G y)).name = "<init>" → meth.name = "<init>") ∧ rFr (G y) ≤ R.frames ∧ rLo (G y) ≤ R.locals
/-- one plain step, in the machine -/
def mStW (G : Nat → mRec) (l : Launch) (bs ba : Nat) (D : va_G) (cy : Nat → ClassId) (scr : Cell) (y : Nat) (pc : Nat) (L st : List Value) (μ : mM) (pc' : Nat) (L' st' : List Value) (μ' : mM) : Prop :=
  ∀ (p : Program) (e : Env) (R : Room) (s : State) (m : MethodId) (args : Array Value) (below : List Frame) (meth : Method) (c : Code) (H : Heap) (locs : List Loc) (cells slots : Nat) (Q : State → Prop) (ls : Array Slot),
    mCtx G D cy scr y p R s m args meth c → mW bs ba D cy scr μ H → mLv bs ba (rL (G y)) L ls → (∀ q ∈ locs, ba ≤ q.base) → cells + (mNx μ' - mNx μ) ≤ R.cells → slots + (mSl μ' - mSl μ) ≤ R.slots →
    (∀ (H' : Heap) (locs' : List Loc) (ls' : Array Slot), mW bs ba D cy scr μ' H' → mLv bs ba (rL (G y)) L' ls' → (∀ q ∈ locs', ba ≤ q.base) → W p l e R s m args below meth c H' locs' (cells + (mNx μ' - mNx μ)) (slots + (mSl μ' - mSl μ)) Q (F0 m pc' ls' (st'.map (mTr bs ba)))) →
    W p l e R s m args below meth c H locs cells slots Q (F0 m pc ls (st.map (mTr bs ba)))
/-- what a step of a plain instruction comes to -/
def mPl (G : Nat → mRec) (l : Launch) (bs ba : Nat) (D : va_G) (cy : Nat → ClassId) (scr : Cell) (y : Nat) (is : List mIns) (pc len : Nat) (L st : List Value) (μ : mM) (o : mCf) : Prop :=
  o.1 = y ∧ mNx μ ≤ mNx o.2.2.2.2 ∧ mSl μ ≤ mSl o.2.2.2.2 ∧ ((o.2.1 = is ∧ mStW G l bs ba D cy scr y pc L st μ (pc + len) o.2.2.1 o.2.2.2.1 o.2.2.2.2) ∨ ∃ t, o.2.1 = mSeek t (rC (G y)) ∧ mStW G l bs ba D cy scr y pc L st μ t o.2.2.1 o.2.2.2.1 o.2.2.2.2)
section MX
variable {G : Nat → mRec} {l : Launch} {bs ba : Nat} {D : va_G} {cy : Nat → ClassId} {scr : Cell} {y pc len : Nat} {is : List mIns} {L st L' st' : List Value} {μ μ' : mM} {aux : List Nat}
/-- a step that leaves locals and memory -/
theorem mPl_0 (h : mStW G l bs ba D cy scr y pc L st μ (pc + len) L' st' μ) : mPl G l bs ba D cy scr y is pc len L st μ (y, is, L', st', μ) := ⟨rfl, Nat.le_refl _, Nat.le_refl _, Or.inl ⟨rfl, h⟩⟩
theorem mPl_j {t : Nat} (h : mStW G l bs ba D cy scr y pc L st μ t L' st' μ) : mPl G l bs ba D cy scr y is pc len L st μ (y, mSeek t (rC (G y)), L', st', μ) := ⟨rfl, Nat.le_refl _, Nat.le_refl _, Or.inr ⟨t, rfl, h⟩⟩
theorem mPl_set {ty a k : Nat} {v : Value} (hs : mSet μ ty a k v = some μ') (h : mStW G l bs ba D cy scr y pc L st μ (pc + len) L' st' μ') : mPl G l bs ba D cy scr y is pc len L st μ (y, is, L', st', μ') :=
  ⟨rfl, by rw [(mSet_S hs).2.1]; exact Nat.le_refl _, by rw [(mSet_S hs).2.2]; exact Nat.le_refl _, Or.inl ⟨rfl, h⟩⟩
theorem mPl_new {t n : Nat} (h : mStW G l bs ba D cy scr y pc L st μ (pc + len) L' st' (mNew μ t n)) : mPl G l bs ba D cy scr y is pc len L st μ (y, is, L', st', mNew μ t n) :=
  ⟨rfl, by show mNx μ ≤ mNx μ + 1; omega, by show mSl μ ≤ mSl μ + n; omega, Or.inl ⟨rfl, h⟩⟩
theorem mx_iload_n {k : Fin 4} {x : Int32} (hd : decode (rB (G y)) pc = .ok (.iload_n k, 1)) (hv : mNth L k = .int x) : mStW G l bs ba D cy scr y pc L (st) μ (pc + 1) (L) (.int x :: st) (μ) := by
  intro p e R s m args below meth c H locs cells slots Q ls hC hW hL hlo hce hsl K
  obtain ⟨hx, hb, hml, hown, hts, hK, hin, hfr, hlr⟩ := hC
  simp only [Nat.sub_self, Nat.add_zero] at K
  exact lv_iload_n hx hb hd rfl (mLv_at hL hv rfl) (K H locs ls hW hL hlo)
theorem mx_iload {k : Nat} {x : Int32} (hd : decode (rB (G y)) pc = .ok (.iload k, 2)) (hv : mNth L k = .int x) : mStW G l bs ba D cy scr y pc L (st) μ (pc + 2) (L) (.int x :: st) (μ) := by
  intro p e R s m args below meth c H locs cells slots Q ls hC hW hL hlo hce hsl K
  obtain ⟨hx, hb, hml, hown, hts, hK, hin, hfr, hlr⟩ := hC
  simp only [Nat.sub_self, Nat.add_zero] at K
  exact lv_iload hx hb hd (mLv_at hL hv rfl) (K H locs ls hW hL hlo)
theorem mx_fload_n {k : Fin 4} {x : UInt32} (hd : decode (rB (G y)) pc = .ok (.fload_n k, 1)) (hv : mNth L k = .float x) : mStW G l bs ba D cy scr y pc L (st) μ (pc + 1) (L) (.float x :: st) (μ) := by
  intro p e R s m args below meth c H locs cells slots Q ls hC hW hL hlo hce hsl K
  obtain ⟨hx, hb, hml, hown, hts, hK, hin, hfr, hlr⟩ := hC
  simp only [Nat.sub_self, Nat.add_zero] at K
  exact lv_fload_n hx hb hd rfl (mLv_at hL hv rfl) (K H locs ls hW hL hlo)
theorem mx_fload {k : Nat} {x : UInt32} (hd : decode (rB (G y)) pc = .ok (.fload k, 2)) (hv : mNth L k = .float x) : mStW G l bs ba D cy scr y pc L (st) μ (pc + 2) (L) (.float x :: st) (μ) := by
  intro p e R s m args below meth c H locs cells slots Q ls hC hW hL hlo hce hsl K
  obtain ⟨hx, hb, hml, hown, hts, hK, hin, hfr, hlr⟩ := hC
  simp only [Nat.sub_self, Nat.add_zero] at K
  exact lv_fload hx hb hd (mLv_at hL hv rfl) (K H locs ls hW hL hlo)
theorem mx_lload_n {k : Fin 4} {x : Int64} (hd : decode (rB (G y)) pc = .ok (.lload_n k, 1)) (hv : mNth L k = .long x) : mStW G l bs ba D cy scr y pc L (st) μ (pc + 1) (L) (.long x :: st) (μ) := by
  intro p e R s m args below meth c H locs cells slots Q ls hC hW hL hlo hce hsl K
  obtain ⟨hx, hb, hml, hown, hts, hK, hin, hfr, hlr⟩ := hC
  simp only [Nat.sub_self, Nat.add_zero] at K
  exact lv_lload_n hx hb hd rfl (mLv_at hL hv rfl) (K H locs ls hW hL hlo)
theorem mx_lload {k : Nat} {x : Int64} (hd : decode (rB (G y)) pc = .ok (.lload k, 2)) (hv : mNth L k = .long x) : mStW G l bs ba D cy scr y pc L (st) μ (pc + 2) (L) (.long x :: st) (μ) := by
  intro p e R s m args below meth c H locs cells slots Q ls hC hW hL hlo hce hsl K
  obtain ⟨hx, hb, hml, hown, hts, hK, hin, hfr, hlr⟩ := hC
  simp only [Nat.sub_self, Nat.add_zero] at K
  exact lv_lload hx hb hd (mLv_at hL hv rfl) (K H locs ls hW hL hlo)
theorem mx_aload_n {k : Fin 4} {x : Nat} (hd : decode (rB (G y)) pc = .ok (.aload_n k, 1)) (hv : mNth L k = .ref x) : mStW G l bs ba D cy scr y pc L (st) μ (pc + 1) (L) (.ref x :: st) (μ) := by
  intro p e R s m args below meth c H locs cells slots Q ls hC hW hL hlo hce hsl K
  obtain ⟨hx, hb, hml, hown, hts, hK, hin, hfr, hlr⟩ := hC
  simp only [Nat.sub_self, Nat.add_zero] at K
  have h2 := mLv_at hL hv rfl
  have h3 := K H locs ls hW hL hlo
  simp only [List.map_cons, mTr] at h2 h3
  by_cases h0 : x = 0
  · rw [if_pos h0] at h2 h3
    exact lv_aload_nN hx hb hd rfl h2 h3
  · rw [if_neg h0] at h2 h3
    exact lv_aload_n hx hb hd rfl h2 h3
theorem mx_aload {k : Nat} {x : Nat} (hd : decode (rB (G y)) pc = .ok (.aload k, 2)) (hv : mNth L k = .ref x) : mStW G l bs ba D cy scr y pc L (st) μ (pc + 2) (L) (.ref x :: st) (μ) := by
  intro p e R s m args below meth c H locs cells slots Q ls hC hW hL hlo hce hsl K
  obtain ⟨hx, hb, hml, hown, hts, hK, hin, hfr, hlr⟩ := hC
  simp only [Nat.sub_self, Nat.add_zero] at K
  have h2 := mLv_at hL hv rfl
  have h3 := K H locs ls hW hL hlo
  simp only [List.map_cons, mTr] at h2 h3
  by_cases h0 : x = 0
  · rw [if_pos h0] at h2 h3
    exact lv_aloadN hx hb hd h2 h3
  · rw [if_neg h0] at h2 h3
    exact lv_aload hx hb hd h2 h3
theorem mx_istore_n {k : Fin 4} {x : Int32} (hd : decode (rB (G y)) pc = .ok (.istore_n k, 1)) (hs : mSt1 L k (.int x) = some L') : mStW G l bs ba D cy scr y pc L (.int x :: st) μ (pc + 1) (L') (st) (μ) := by
  intro p e R s m args below meth c H locs cells slots Q ls hC hW hL hlo hce hsl K
  obtain ⟨hx, hb, hml, hown, hts, hK, hin, hfr, hlr⟩ := hC
  simp only [Nat.sub_self, Nat.add_zero] at K
  have hk : (k : Nat) < rL (G y) := by
    unfold mSt1 at hs
    split at hs
    · rename_i h1; rw [← hL.1]; exact h1.1
    · cases hs
  exact lv_istore_n (nL := rL (G y)) hx hb hd rfl hL.2 hk rfl (fun ls' hl => K H locs ls' hW (mLv_st1 hL.1 hs hl) hlo)
theorem mx_istore {k : Nat} {x : Int32} (hd : decode (rB (G y)) pc = .ok (.istore k, 2)) (hs : mSt1 L k (.int x) = some L') : mStW G l bs ba D cy scr y pc L (.int x :: st) μ (pc + 2) (L') (st) (μ) := by
  intro p e R s m args below meth c H locs cells slots Q ls hC hW hL hlo hce hsl K
  obtain ⟨hx, hb, hml, hown, hts, hK, hin, hfr, hlr⟩ := hC
  simp only [Nat.sub_self, Nat.add_zero] at K
  have hk : (k : Nat) < rL (G y) := by
    unfold mSt1 at hs
    split at hs
    · rename_i h1; rw [← hL.1]; exact h1.1
    · cases hs
  exact lv_istore (nL := rL (G y)) hx hb hd hL.2 hk rfl (fun ls' hl => K H locs ls' hW (mLv_st1 hL.1 hs hl) hlo)
theorem mx_fstore_n {k : Fin 4} {x : UInt32} (hd : decode (rB (G y)) pc = .ok (.fstore_n k, 1)) (hs : mSt1 L k (.float x) = some L') : mStW G l bs ba D cy scr y pc L (.float x :: st) μ (pc + 1) (L') (st) (μ) := by
  intro p e R s m args below meth c H locs cells slots Q ls hC hW hL hlo hce hsl K
  obtain ⟨hx, hb, hml, hown, hts, hK, hin, hfr, hlr⟩ := hC
  simp only [Nat.sub_self, Nat.add_zero] at K
  have hk : (k : Nat) < rL (G y) := by
    unfold mSt1 at hs
    split at hs
    · rename_i h1; rw [← hL.1]; exact h1.1
    · cases hs
  exact lv_fstore_n (nL := rL (G y)) hx hb hd rfl hL.2 hk rfl (fun ls' hl => K H locs ls' hW (mLv_st1 hL.1 hs hl) hlo)
theorem mx_fstore {k : Nat} {x : UInt32} (hd : decode (rB (G y)) pc = .ok (.fstore k, 2)) (hs : mSt1 L k (.float x) = some L') : mStW G l bs ba D cy scr y pc L (.float x :: st) μ (pc + 2) (L') (st) (μ) := by
  intro p e R s m args below meth c H locs cells slots Q ls hC hW hL hlo hce hsl K
  obtain ⟨hx, hb, hml, hown, hts, hK, hin, hfr, hlr⟩ := hC
  simp only [Nat.sub_self, Nat.add_zero] at K
  have hk : (k : Nat) < rL (G y) := by
    unfold mSt1 at hs
    split at hs
    · rename_i h1; rw [← hL.1]; exact h1.1
    · cases hs
  exact lv_fstore (nL := rL (G y)) hx hb hd hL.2 hk rfl (fun ls' hl => K H locs ls' hW (mLv_st1 hL.1 hs hl) hlo)
theorem mx_lstore_n {k : Fin 4} {x : Int64} (hd : decode (rB (G y)) pc = .ok (.lstore_n k, 1)) (hs : mSt2 L k (.long x) = some L') : mStW G l bs ba D cy scr y pc L (.long x :: st) μ (pc + 1) (L') (st) (μ) := by
  intro p e R s m args below meth c H locs cells slots Q ls hC hW hL hlo hce hsl K
  obtain ⟨hx, hb, hml, hown, hts, hK, hin, hfr, hlr⟩ := hC
  simp only [Nat.sub_self, Nat.add_zero] at K
  have hk : (k : Nat) + 1 < rL (G y) := by
    unfold mSt2 at hs
    split at hs
    · rename_i h1; rw [← hL.1]; exact h1.1
    · cases hs
  exact lv_lstore_n (nL := rL (G y)) hx hb hd rfl hL.2 hk rfl (fun ls' hl => K H locs ls' hW (mLv_st2 hL.1 hs hl) hlo)
theorem mx_lstore {k : Nat} {x : Int64} (hd : decode (rB (G y)) pc = .ok (.lstore k, 2)) (hs : mSt2 L k (.long x) = some L') : mStW G l bs ba D cy scr y pc L (.long x :: st) μ (pc + 2) (L') (st) (μ) := by
  intro p e R s m args below meth c H locs cells slots Q ls hC hW hL hlo hce hsl K
  obtain ⟨hx, hb, hml, hown, hts, hK, hin, hfr, hlr⟩ := hC
  simp only [Nat.sub_self, Nat.add_zero] at K
  have hk : (k : Nat) + 1 < rL (G y) := by
    unfold mSt2 at hs
    split at hs
    · rename_i h1; rw [← hL.1]; exact h1.1
    · cases hs
  exact lv_lstore (nL := rL (G y)) hx hb hd hL.2 hk rfl (fun ls' hl => K H locs ls' hW (mLv_st2 hL.1 hs hl) hlo)
theorem mx_astore_n {k : Fin 4} {x : Nat} (hd : decode (rB (G y)) pc = .ok (.astore_n k, 1)) (hs : mSt1 L k (.ref x) = some L') : mStW G l bs ba D cy scr y pc L (.ref x :: st) μ (pc + 1) (L') (st) (μ) := by
  intro p e R s m args below meth c H locs cells slots Q ls hC hW hL hlo hce hsl K
  obtain ⟨hx, hb, hml, hown, hts, hK, hin, hfr, hlr⟩ := hC
  simp only [Nat.sub_self, Nat.add_zero] at K
  have hk : (k : Nat) < rL (G y) := by
    unfold mSt1 at hs
    split at hs
    · rename_i h1; rw [← hL.1]; exact h1.1
    · cases hs
  have hst := fun ls' => mLv_st1 (bs := bs) (ba := ba) (ls' := ls') hL.1 hs
  simp only [List.map_cons, mTr] at hst ⊢
  by_cases h0 : x = 0
  · rw [if_pos h0] at hst ⊢
    exact lv_astore_nN (nL := rL (G y)) hx hb hd rfl hL.2 hk rfl (fun ls' hl => K H locs ls' hW (hst ls' hl) hlo)
  · rw [if_neg h0] at hst ⊢
    exact lv_astore_n (nL := rL (G y)) hx hb hd rfl hL.2 hk rfl (fun ls' hl => K H locs ls' hW (hst ls' hl) hlo)
theorem mx_astore {k : Nat} {x : Nat} (hd : decode (rB (G y)) pc = .ok (.astore k, 2)) (hs : mSt1 L k (.ref x) = some L') : mStW G l bs ba D cy scr y pc L (.ref x :: st) μ (pc + 2) (L') (st) (μ) := by
  intro p e R s m args below meth c H locs cells slots Q ls hC hW hL hlo hce hsl K
  obtain ⟨hx, hb, hml, hown, hts, hK, hin, hfr, hlr⟩ := hC
  simp only [Nat.sub_self, Nat.add_zero] at K
  have hk : (k : Nat) < rL (G y) := by
    unfold mSt1 at hs
    split at hs
    · rename_i h1; rw [← hL.1]; exact h1.1
    · cases hs
  have hst := fun ls' => mLv_st1 (bs := bs) (ba := ba) (ls' := ls') hL.1 hs
  simp only [List.map_cons, mTr] at hst ⊢
  by_cases h0 : x = 0
  · rw [if_pos h0] at hst ⊢
    exact lv_astoreN (nL := rL (G y)) hx hb hd hL.2 hk rfl (fun ls' hl => K H locs ls' hW (hst ls' hl) hlo)
  · rw [if_neg h0] at hst ⊢
    exact lv_astore (nL := rL (G y)) hx hb hd hL.2 hk rfl (fun ls' hl => K H locs ls' hW (hst ls' hl) hlo)
theorem mx_iinc {k : Nat} {n : Int} {x : Int32} (hd : decode (rB (G y)) pc = .ok (.iinc k n, 3)) (hv : mNth L k = .int x) (hs : mSt1 L k (.int (x + Int32.ofInt n)) = some L') : mStW G l bs ba D cy scr y pc L (st) μ (pc + 3) (L') (st) (μ) := by
  intro p e R s m args below meth c H locs cells slots Q ls hC hW hL hlo hce hsl K
  obtain ⟨hx, hb, hml, hown, hts, hK, hin, hfr, hlr⟩ := hC
  simp only [Nat.sub_self, Nat.add_zero] at K
  have hk : k < rL (G y) := by
    unfold mSt1 at hs
    split at hs
    · rename_i h1; rw [← hL.1]; exact h1.1
    · cases hs
  obtain ⟨i, hi⟩ := mLv_place (bs := bs) (ba := ba) (n := rL (G y)) hv rfl
  exact lv_iinc (nL := rL (G y)) hx hb hd hL.2 hi rfl hk rfl (fun ls' hl => K H locs ls' hW (mLv_st1 (v := .int (x + Int32.ofInt n)) hL.1 hs hl) hlo)
theorem mx_iconst {n : Int} (hd : decode (rB (G y)) pc = .ok (.iconst n, 1)) : mStW G l bs ba D cy scr y pc L (st) μ (pc + 1) (L) (.int (Int32.ofInt n) :: st) (μ) := by
  intro p e R s m args below meth c H locs cells slots Q ls hC hW hL hlo hce hsl K
  obtain ⟨hx, hb, hml, hown, hts, hK, hin, hfr, hlr⟩ := hC
  simp only [Nat.sub_self, Nat.add_zero] at K
  exact lv_iconst hx hb hd rfl (K H locs ls hW hL hlo)
theorem mx_bipush {n : Int} (hd : decode (rB (G y)) pc = .ok (.bipush n, 2)) : mStW G l bs ba D cy scr y pc L (st) μ (pc + 2) (L) (.int (Int8.ofInt n).toInt32 :: st) (μ) := by
  intro p e R s m args below meth c H locs cells slots Q ls hC hW hL hlo hce hsl K
  obtain ⟨hx, hb, hml, hown, hts, hK, hin, hfr, hlr⟩ := hC
  simp only [Nat.sub_self, Nat.add_zero] at K
  exact lv_bipush hx hb hd rfl (K H locs ls hW hL hlo)
theorem mx_sipush {n : Int} (hd : decode (rB (G y)) pc = .ok (.sipush n, 3)) : mStW G l bs ba D cy scr y pc L (st) μ (pc + 3) (L) (.int (Int16.ofInt n).toInt32 :: st) (μ) := by
  intro p e R s m args below meth c H locs cells slots Q ls hC hW hL hlo hce hsl K
  obtain ⟨hx, hb, hml, hown, hts, hK, hin, hfr, hlr⟩ := hC
  simp only [Nat.sub_self, Nat.add_zero] at K
  exact lv_sipush hx hb hd rfl (K H locs ls hW hL hlo)
theorem mx_lconst {n : Fin 2} (hd : decode (rB (G y)) pc = .ok (.lconst n, 1)) : mStW G l bs ba D cy scr y pc L (st) μ (pc + 1) (L) (.long (Int64.ofNat (n : Nat)) :: st) (μ) := by
  intro p e R s m args below meth c H locs cells slots Q ls hC hW hL hlo hce hsl K
  obtain ⟨hx, hb, hml, hown, hts, hK, hin, hfr, hlr⟩ := hC
  simp only [Nat.sub_self, Nat.add_zero] at K
  exact lv_lconst hx hb hd rfl (K H locs ls hW hL hlo)
theorem mx_fconst0 (hd : decode (rB (G y)) pc = .ok (.fconst 0, 1)) : mStW G l bs ba D cy scr y pc L (st) μ (pc + 1) (L) (.float FP.fconst0 :: st) (μ) := by
  intro p e R s m args below meth c H locs cells slots Q ls hC hW hL hlo hce hsl K
  obtain ⟨hx, hb, hml, hown, hts, hK, hin, hfr, hlr⟩ := hC
  simp only [Nat.sub_self, Nat.add_zero] at K
  exact lv_fconst0 hx hb hd (K H locs ls hW hL hlo)
theorem mx_fconst1 (hd : decode (rB (G y)) pc = .ok (.fconst 1, 1)) : mStW G l bs ba D cy scr y pc L (st) μ (pc + 1) (L) (.float FP.fconst1 :: st) (μ) := by
  intro p e R s m args below meth c H locs cells slots Q ls hC hW hL hlo hce hsl K
  obtain ⟨hx, hb, hml, hown, hts, hK, hin, hfr, hlr⟩ := hC
  simp only [Nat.sub_self, Nat.add_zero] at K
  exact lv_fconst1 hx hb hd (K H locs ls hW hL hlo)
theorem mx_fconst2 (hd : decode (rB (G y)) pc = .ok (.fconst 2, 1)) : mStW G l bs ba D cy scr y pc L (st) μ (pc + 1) (L) (.float FP.fconst2 :: st) (μ) := by
  intro p e R s m args below meth c H locs cells slots Q ls hC hW hL hlo hce hsl K
  obtain ⟨hx, hb, hml, hown, hts, hK, hin, hfr, hlr⟩ := hC
  simp only [Nat.sub_self, Nat.add_zero] at K
  exact lv_fconst2 hx hb hd (K H locs ls hW hL hlo)
theorem mx_aconst_null (hd : decode (rB (G y)) pc = .ok (.aconst_null, 1)) : mStW G l bs ba D cy scr y pc L (st) μ (pc + 1) (L) (.ref 0 :: st) (μ) := by
  intro p e R s m args below meth c H locs cells slots Q ls hC hW hL hlo hce hsl K
  obtain ⟨hx, hb, hml, hown, hts, hK, hin, hfr, hlr⟩ := hC
  simp only [Nat.sub_self, Nat.add_zero] at K
  exact lv_null hx hb hd (K H locs ls hW hL hlo)
theorem mx_ldc {i : Nat} {v : UInt32} (hd : decode (rB (G y)) pc = .ok (.ldc i, 2)) (hw : Cond.constantFloat (mR (rO (G y))) i v ∈ mGd) : mStW G l bs ba D cy scr y pc L (st) μ (pc + 2) (L) (.float v :: st) (μ) := by
  intro p e R s m args below meth c H locs cells slots Q ls hC hW hL hlo hce hsl K
  obtain ⟨hx, hb, hml, hown, hts, hK, hin, hfr, hlr⟩ := hC
  simp only [Nat.sub_self, Nat.add_zero] at K
  exact lv_ldcf hx hb hown (hts _ hw) hd (K H locs ls hW hL hlo)
theorem mx_ldc_w {i : Nat} {v : UInt32} (hd : decode (rB (G y)) pc = .ok (.ldc_w i, 3)) (hw : Cond.constantFloat (mR (rO (G y))) i v ∈ mGd) : mStW G l bs ba D cy scr y pc L (st) μ (pc + 3) (L) (.float v :: st) (μ) := by
  intro p e R s m args below meth c H locs cells slots Q ls hC hW hL hlo hce hsl K
  obtain ⟨hx, hb, hml, hown, hts, hK, hin, hfr, hlr⟩ := hC
  simp only [Nat.sub_self, Nat.add_zero] at K
  exact mr_ldcwF hx hb hown (hts _ hw) hd (K H locs ls hW hL hlo)
theorem mx_ldc2_w {i : Nat} {v : Int64} (hd : decode (rB (G y)) pc = .ok (.ldc2_w i, 3)) (hw : Cond.constantLong (mR (rO (G y))) i v ∈ mGd) : mStW G l bs ba D cy scr y pc L (st) μ (pc + 3) (L) (.long v :: st) (μ) := by
  intro p e R s m args below meth c H locs cells slots Q ls hC hW hL hlo hce hsl K
  obtain ⟨hx, hb, hml, hown, hts, hK, hin, hfr, hlr⟩ := hC
  simp only [Nat.sub_self, Nat.add_zero] at K
  exact lv_ldc2 hx hb hown (hts _ hw) hd (K H locs ls hW hL hlo)
theorem mx_iadd {a b : Int32} (hd : decode (rB (G y)) pc = .ok (.iadd, 1)) : mStW G l bs ba D cy scr y pc L (.int b :: .int a :: st) μ (pc + 1) (L) (.int (a + b) :: st) (μ) := by
  intro p e R s m args below meth c H locs cells slots Q ls hC hW hL hlo hce hsl K
  obtain ⟨hx, hb, hml, hown, hts, hK, hin, hfr, hlr⟩ := hC
  simp only [Nat.sub_self, Nat.add_zero] at K
  exact lv_iadd hx hb hd (K H locs ls hW hL hlo)
theorem mx_isub {a b : Int32} (hd : decode (rB (G y)) pc = .ok (.isub, 1)) : mStW G l bs ba D cy scr y pc L (.int b :: .int a :: st) μ (pc + 1) (L) (.int (a - b) :: st) (μ) := by
  intro p e R s m args below meth c H locs cells slots Q ls hC hW hL hlo hce hsl K
  obtain ⟨hx, hb, hml, hown, hts, hK, hin, hfr, hlr⟩ := hC
  simp only [Nat.sub_self, Nat.add_zero] at K
  exact lv_isub hx hb hd (K H locs ls hW hL hlo)
theorem mx_imul {a b : Int32} (hd : decode (rB (G y)) pc = .ok (.imul, 1)) : mStW G l bs ba D cy scr y pc L (.int b :: .int a :: st) μ (pc + 1) (L) (.int (a * b) :: st) (μ) := by
  intro p e R s m args below meth c H locs cells slots Q ls hC hW hL hlo hce hsl K
  obtain ⟨hx, hb, hml, hown, hts, hK, hin, hfr, hlr⟩ := hC
  simp only [Nat.sub_self, Nat.add_zero] at K
  exact lv_imul hx hb hd (K H locs ls hW hL hlo)
theorem mx_iand {a b : Int32} (hd : decode (rB (G y)) pc = .ok (.iand, 1)) : mStW G l bs ba D cy scr y pc L (.int b :: .int a :: st) μ (pc + 1) (L) (.int (a &&& b) :: st) (μ) := by
  intro p e R s m args below meth c H locs cells slots Q ls hC hW hL hlo hce hsl K
  obtain ⟨hx, hb, hml, hown, hts, hK, hin, hfr, hlr⟩ := hC
  simp only [Nat.sub_self, Nat.add_zero] at K
  exact lv_iand hx hb hd (K H locs ls hW hL hlo)
theorem mx_ior {a b : Int32} (hd : decode (rB (G y)) pc = .ok (.ior, 1)) : mStW G l bs ba D cy scr y pc L (.int b :: .int a :: st) μ (pc + 1) (L) (.int (a ||| b) :: st) (μ) := by
  intro p e R s m args below meth c H locs cells slots Q ls hC hW hL hlo hce hsl K
  obtain ⟨hx, hb, hml, hown, hts, hK, hin, hfr, hlr⟩ := hC
  simp only [Nat.sub_self, Nat.add_zero] at K
  exact lv_ior hx hb hd (K H locs ls hW hL hlo)
theorem mx_ishl {a b : Int32} (hd : decode (rB (G y)) pc = .ok (.ishl, 1)) : mStW G l bs ba D cy scr y pc L (.int b :: .int a :: st) μ (pc + 1) (L) (.int (a <<< (b &&& 31)) :: st) (μ) := by
  intro p e R s m args below meth c H locs cells slots Q ls hC hW hL hlo hce hsl K
  obtain ⟨hx, hb, hml, hown, hts, hK, hin, hfr, hlr⟩ := hC
  simp only [Nat.sub_self, Nat.add_zero] at K
  exact lv_ishl hx hb hd (K H locs ls hW hL hlo)
theorem mx_ishr {a b : Int32} (hd : decode (rB (G y)) pc = .ok (.ishr, 1)) : mStW G l bs ba D cy scr y pc L (.int b :: .int a :: st) μ (pc + 1) (L) (.int (a >>> (b &&& 31)) :: st) (μ) := by
  intro p e R s m args below meth c H locs cells slots Q ls hC hW hL hlo hce hsl K
  obtain ⟨hx, hb, hml, hown, hts, hK, hin, hfr, hlr⟩ := hC
  simp only [Nat.sub_self, Nat.add_zero] at K
  exact lv_ishr hx hb hd (K H locs ls hW hL hlo)
theorem mx_idiv {a b : Int32} (hd : decode (rB (G y)) pc = .ok (.idiv, 1)) (hne : ¬ b = 0) : mStW G l bs ba D cy scr y pc L (.int b :: .int a :: st) μ (pc + 1) (L) (.int (a / b) :: st) (μ) := by
  intro p e R s m args below meth c H locs cells slots Q ls hC hW hL hlo hce hsl K
  obtain ⟨hx, hb, hml, hown, hts, hK, hin, hfr, hlr⟩ := hC
  simp only [Nat.sub_self, Nat.add_zero] at K
  exact lv_idiv hx hb hd hne (K H locs ls hW hL hlo)
theorem mx_irem {a b : Int32} (hd : decode (rB (G y)) pc = .ok (.irem, 1)) (hne : ¬ b = 0) : mStW G l bs ba D cy scr y pc L (.int b :: .int a :: st) μ (pc + 1) (L) (.int (a - a / b * b) :: st) (μ) := by
  intro p e R s m args below meth c H locs cells slots Q ls hC hW hL hlo hce hsl K
  obtain ⟨hx, hb, hml, hown, hts, hK, hin, hfr, hlr⟩ := hC
  simp only [Nat.sub_self, Nat.add_zero] at K
  exact lv_irem hx hb hd hne (K H locs ls hW hL hlo)
theorem mx_ladd {a b : Int64} (hd : decode (rB (G y)) pc = .ok (.ladd, 1)) : mStW G l bs ba D cy scr y pc L (.long b :: .long a :: st) μ (pc + 1) (L) (.long (a + b) :: st) (μ) := by
  intro p e R s m args below meth c H locs cells slots Q ls hC hW hL hlo hce hsl K
  obtain ⟨hx, hb, hml, hown, hts, hK, hin, hfr, hlr⟩ := hC
  simp only [Nat.sub_self, Nat.add_zero] at K
  exact lv_ladd hx hb hd (K H locs ls hW hL hlo)
theorem mx_lsub {a b : Int64} (hd : decode (rB (G y)) pc = .ok (.lsub, 1)) : mStW G l bs ba D cy scr y pc L (.long b :: .long a :: st) μ (pc + 1) (L) (.long (a - b) :: st) (μ) := by
  intro p e R s m args below meth c H locs cells slots Q ls hC hW hL hlo hce hsl K
  obtain ⟨hx, hb, hml, hown, hts, hK, hin, hfr, hlr⟩ := hC
  simp only [Nat.sub_self, Nat.add_zero] at K
  exact lv_lsub hx hb hd (K H locs ls hW hL hlo)
theorem mx_lmul {a b : Int64} (hd : decode (rB (G y)) pc = .ok (.lmul, 1)) : mStW G l bs ba D cy scr y pc L (.long b :: .long a :: st) μ (pc + 1) (L) (.long (a * b) :: st) (μ) := by
  intro p e R s m args below meth c H locs cells slots Q ls hC hW hL hlo hce hsl K
  obtain ⟨hx, hb, hml, hown, hts, hK, hin, hfr, hlr⟩ := hC
  simp only [Nat.sub_self, Nat.add_zero] at K
  exact lv_lmul hx hb hd (K H locs ls hW hL hlo)
theorem mx_lcmp {a b : Int64} (hd : decode (rB (G y)) pc = .ok (.lcmp, 1)) : mStW G l bs ba D cy scr y pc L (.long b :: .long a :: st) μ (pc + 1) (L) (.int (lg_cmp a b) :: st) (μ) := by
  intro p e R s m args below meth c H locs cells slots Q ls hC hW hL hlo hce hsl K
  obtain ⟨hx, hb, hml, hown, hts, hK, hin, hfr, hlr⟩ := hC
  simp only [Nat.sub_self, Nat.add_zero] at K
  exact W.lcmp hx hb hd (K H locs ls hW hL hlo)
theorem mx_i2l {a : Int32} (hd : decode (rB (G y)) pc = .ok (.i2l, 1)) : mStW G l bs ba D cy scr y pc L (.int a :: st) μ (pc + 1) (L) (.long a.toInt64 :: st) (μ) := by
  intro p e R s m args below meth c H locs cells slots Q ls hC hW hL hlo hce hsl K
  obtain ⟨hx, hb, hml, hown, hts, hK, hin, hfr, hlr⟩ := hC
  simp only [Nat.sub_self, Nat.add_zero] at K
  exact lv_i2l hx hb hd rfl (K H locs ls hW hL hlo)
theorem mx_i2f {a : Int32} (hd : decode (rB (G y)) pc = .ok (.i2f, 1)) : mStW G l bs ba D cy scr y pc L (.int a :: st) μ (pc + 1) (L) (.float (FP.i2f a) :: st) (μ) := by
  intro p e R s m args below meth c H locs cells slots Q ls hC hW hL hlo hce hsl K
  obtain ⟨hx, hb, hml, hown, hts, hK, hin, hfr, hlr⟩ := hC
  simp only [Nat.sub_self, Nat.add_zero] at K
  exact lv_i2f hx hb hd (K H locs ls hW hL hlo)
theorem mx_f2i {a : UInt32} (hd : decode (rB (G y)) pc = .ok (.f2i, 1)) : mStW G l bs ba D cy scr y pc L (.float a :: st) μ (pc + 1) (L) (.int (FP.f2i a) :: st) (μ) := by
  intro p e R s m args below meth c H locs cells slots Q ls hC hW hL hlo hce hsl K
  obtain ⟨hx, hb, hml, hown, hts, hK, hin, hfr, hlr⟩ := hC
  simp only [Nat.sub_self, Nat.add_zero] at K
  exact lv_f2i hx hb hd (K H locs ls hW hL hlo)
theorem mx_fadd {a b : UInt32} (hd : decode (rB (G y)) pc = .ok (.fadd, 1)) (hne : FP.fadd a b &&& 0x7fffffff ≤ 0x7f800000) : mStW G l bs ba D cy scr y pc L (.float b :: .float a :: st) μ (pc + 1) (L) (.float (FP.fadd a b) :: st) (μ) := by
  intro p e R s m args below meth c H locs cells slots Q ls hC hW hL hlo hce hsl K
  obtain ⟨hx, hb, hml, hown, hts, hK, hin, hfr, hlr⟩ := hC
  simp only [Nat.sub_self, Nat.add_zero] at K
  exact lv_fadd hx hb hd hne (K H locs ls hW hL hlo)
theorem mx_fsub {a b : UInt32} (hd : decode (rB (G y)) pc = .ok (.fsub, 1)) (hne : FP.fsub a b &&& 0x7fffffff ≤ 0x7f800000) : mStW G l bs ba D cy scr y pc L (.float b :: .float a :: st) μ (pc + 1) (L) (.float (FP.fsub a b) :: st) (μ) := by
  intro p e R s m args below meth c H locs cells slots Q ls hC hW hL hlo hce hsl K
  obtain ⟨hx, hb, hml, hown, hts, hK, hin, hfr, hlr⟩ := hC
  simp only [Nat.sub_self, Nat.add_zero] at K
  exact lv_fsub hx hb hd hne (K H locs ls hW hL hlo)
theorem mx_fmul {a b : UInt32} (hd : decode (rB (G y)) pc = .ok (.fmul, 1)) (hne : FP.fmul a b &&& 0x7fffffff ≤ 0x7f800000) : mStW G l bs ba D cy scr y pc L (.float b :: .float a :: st) μ (pc + 1) (L) (.float (FP.fmul a b) :: st) (μ) := by
  intro p e R s m args below meth c H locs cells slots Q ls hC hW hL hlo hce hsl K
  obtain ⟨hx, hb, hml, hown, hts, hK, hin, hfr, hlr⟩ := hC
  simp only [Nat.sub_self, Nat.add_zero] at K
  exact lv_fmul hx hb hd hne (K H locs ls hW hL hlo)
theorem mx_fdiv {a b : UInt32} (hd : decode (rB (G y)) pc = .ok (.fdiv, 1)) (hne : FP.fdiv a b &&& 0x7fffffff ≤ 0x7f800000) : mStW G l bs ba D cy scr y pc L (.float b :: .float a :: st) μ (pc + 1) (L) (.float (FP.fdiv a b) :: st) (μ) := by
  intro p e R s m args below meth c H locs cells slots Q ls hC hW hL hlo hce hsl K
  obtain ⟨hx, hb, hml, hown, hts, hK, hin, hfr, hlr⟩ := hC
  simp only [Nat.sub_self, Nat.add_zero] at K
  exact lv_fdiv hx hb hd hne (K H locs ls hW hL hlo)
theorem mx_fcmp {a b : UInt32} {op : CmpOp} (hd : decode (rB (G y)) pc = .ok (.fcmp op, 1)) : mStW G l bs ba D cy scr y pc L (.float b :: .float a :: st) μ (pc + 1) (L) (.int (Op.cmpValue (FP.fcmp a b) op) :: st) (μ) := by
  intro p e R s m args below meth c H locs cells slots Q ls hC hW hL hlo hce hsl K
  obtain ⟨hx, hb, hml, hown, hts, hK, hin, hfr, hlr⟩ := hC
  simp only [Nat.sub_self, Nat.add_zero] at K
  exact lv_fcmp hx hb hd (K H locs ls hW hL hlo)
theorem mx_dup {v : Value} (hd : decode (rB (G y)) pc = .ok (.dup, 1)) (hv : mNotL v = true) : mStW G l bs ba D cy scr y pc L (v :: st) μ (pc + 1) (L) (v :: v :: st) (μ) := by
  intro p e R s m args below meth c H locs cells slots Q ls hC hW hL hlo hce hsl K
  obtain ⟨hx, hb, hml, hown, hts, hK, hin, hfr, hlr⟩ := hC
  simp only [Nat.sub_self, Nat.add_zero] at K
  exact lv_dup hx hb hd (by rw [mTr_cat]; exact mNotL_cat hv) (K H locs ls hW hL hlo)
theorem mx_dup2 {v w : Value} (hd : decode (rB (G y)) pc = .ok (.dup2, 1)) (hv : mNotL v = true ∧ mNotL w = true) : mStW G l bs ba D cy scr y pc L (v :: w :: st) μ (pc + 1) (L) (v :: w :: v :: w :: st) (μ) := by
  intro p e R s m args below meth c H locs cells slots Q ls hC hW hL hlo hce hsl K
  obtain ⟨hx, hb, hml, hown, hts, hK, hin, hfr, hlr⟩ := hC
  simp only [Nat.sub_self, Nat.add_zero] at K
  exact lv_dup2_11 hx hb hd (by rw [mTr_cat]; exact mNotL_cat hv.1) (by rw [mTr_cat]; exact mNotL_cat hv.2) (K H locs ls hW hL hlo)
theorem mx_pop {v : Value} (hd : decode (rB (G y)) pc = .ok (.pop, 1)) (hv : mNotL v = true) : mStW G l bs ba D cy scr y pc L (v :: st) μ (pc + 1) (L) (st) (μ) := by
  intro p e R s m args below meth c H locs cells slots Q ls hC hW hL hlo hce hsl K
  obtain ⟨hx, hb, hml, hown, hts, hK, hin, hfr, hlr⟩ := hC
  simp only [Nat.sub_self, Nat.add_zero] at K
  exact lv_pop hx hb hd (by rw [mTr_cat]; exact mNotL_cat hv) (K H locs ls hW hL hlo)
theorem mx_goto {o : Int} {t : Nat} (hd : decode (rB (G y)) pc = .ok (.goto o, 3)) (ht : (pc : Int) + o = (t : Int)) : mStW G l bs ba D cy scr y pc L (st) μ (t) (L) (st) (μ) := by
  intro p e R s m args below meth c H locs cells slots Q ls hC hW hL hlo hce hsl K
  obtain ⟨hx, hb, hml, hown, hts, hK, hin, hfr, hlr⟩ := hC
  simp only [Nat.sub_self, Nat.add_zero] at K
  exact lv_goto hx hb hd ht (K H locs ls hW hL hlo)
theorem mx_if_eq_t {x : Int32} {o : Int} {t : Nat} (hd : decode (rB (G y)) pc = .ok (.ifCond .eq o, 3)) (ht : (pc : Int) + o = (t : Int)) (hc : x = 0) : mStW G l bs ba D cy scr y pc L (.int x :: st) μ (t) (L) (st) (μ) := by
  intro p e R s m args below meth c H locs cells slots Q ls hC hW hL hlo hce hsl K
  obtain ⟨hx, hb, hml, hown, hts, hK, hin, hfr, hlr⟩ := hC
  simp only [Nat.sub_self, Nat.add_zero] at K
  exact lv_if_eq hx hb hd ht (fun _ => K H locs ls hW hL hlo) (fun h => absurd hc h)
theorem mx_if_eq_f {x : Int32} {o : Int} {t : Nat} (hd : decode (rB (G y)) pc = .ok (.ifCond .eq o, 3)) (ht : (pc : Int) + o = (t : Int)) (hc : ¬ (x = 0)) : mStW G l bs ba D cy scr y pc L (.int x :: st) μ (pc + 3) (L) (st) (μ) := by
  intro p e R s m args below meth c H locs cells slots Q ls hC hW hL hlo hce hsl K
  obtain ⟨hx, hb, hml, hown, hts, hK, hin, hfr, hlr⟩ := hC
  simp only [Nat.sub_self, Nat.add_zero] at K
  exact lv_if_eq hx hb hd ht (fun h => absurd h hc) (fun _ => K H locs ls hW hL hlo)
theorem mx_icmp_eq_t {a b : Int32} {o : Int} {t : Nat} (hd : decode (rB (G y)) pc = .ok (.if_icmp .eq o, 3)) (ht : (pc : Int) + o = (t : Int)) (hc : a = b) : mStW G l bs ba D cy scr y pc L (.int b :: .int a :: st) μ (t) (L) (st) (μ) := by
  intro p e R s m args below meth c H locs cells slots Q ls hC hW hL hlo hce hsl K
  obtain ⟨hx, hb, hml, hown, hts, hK, hin, hfr, hlr⟩ := hC
  simp only [Nat.sub_self, Nat.add_zero] at K
  exact lv_icmp_eq hx hb hd ht (fun _ => K H locs ls hW hL hlo) (fun h => absurd hc h)
theorem mx_icmp_eq_f {a b : Int32} {o : Int} {t : Nat} (hd : decode (rB (G y)) pc = .ok (.if_icmp .eq o, 3)) (ht : (pc : Int) + o = (t : Int)) (hc : ¬ (a = b)) : mStW G l bs ba D cy scr y pc L (.int b :: .int a :: st) μ (pc + 3) (L) (st) (μ) := by
  intro p e R s m args below meth c H locs cells slots Q ls hC hW hL hlo hce hsl K
  obtain ⟨hx, hb, hml, hown, hts, hK, hin, hfr, hlr⟩ := hC
  simp only [Nat.sub_self, Nat.add_zero] at K
  exact lv_icmp_eq hx hb hd ht (fun h => absurd h hc) (fun _ => K H locs ls hW hL hlo)
theorem mx_if_ne_t {x : Int32} {o : Int} {t : Nat} (hd : decode (rB (G y)) pc = .ok (.ifCond .ne o, 3)) (ht : (pc : Int) + o = (t : Int)) (hc : ¬ x = 0) : mStW G l bs ba D cy scr y pc L (.int x :: st) μ (t) (L) (st) (μ) := by
  intro p e R s m args below meth c H locs cells slots Q ls hC hW hL hlo hce hsl K
  obtain ⟨hx, hb, hml, hown, hts, hK, hin, hfr, hlr⟩ := hC
  simp only [Nat.sub_self, Nat.add_zero] at K
  exact lv_if_ne hx hb hd ht (fun _ => K H locs ls hW hL hlo) (fun h => absurd h hc)
theorem mx_if_ne_f {x : Int32} {o : Int} {t : Nat} (hd : decode (rB (G y)) pc = .ok (.ifCond .ne o, 3)) (ht : (pc : Int) + o = (t : Int)) (hc : ¬ (¬ x = 0)) : mStW G l bs ba D cy scr y pc L (.int x :: st) μ (pc + 3) (L) (st) (μ) := by
  intro p e R s m args below meth c H locs cells slots Q ls hC hW hL hlo hce hsl K
  obtain ⟨hx, hb, hml, hown, hts, hK, hin, hfr, hlr⟩ := hC
  simp only [Nat.sub_self, Nat.add_zero] at K
  exact lv_if_ne hx hb hd ht (fun h => absurd h hc) (fun _ => K H locs ls hW hL hlo)
theorem mx_icmp_ne_t {a b : Int32} {o : Int} {t : Nat} (hd : decode (rB (G y)) pc = .ok (.if_icmp .ne o, 3)) (ht : (pc : Int) + o = (t : Int)) (hc : ¬ a = b) : mStW G l bs ba D cy scr y pc L (.int b :: .int a :: st) μ (t) (L) (st) (μ) := by
  intro p e R s m args below meth c H locs cells slots Q ls hC hW hL hlo hce hsl K
  obtain ⟨hx, hb, hml, hown, hts, hK, hin, hfr, hlr⟩ := hC
  simp only [Nat.sub_self, Nat.add_zero] at K
  exact lv_icmp_ne hx hb hd ht (fun _ => K H locs ls hW hL hlo) (fun h => absurd h hc)
theorem mx_icmp_ne_f {a b : Int32} {o : Int} {t : Nat} (hd : decode (rB (G y)) pc = .ok (.if_icmp .ne o, 3)) (ht : (pc : Int) + o = (t : Int)) (hc : ¬ (¬ a = b)) : mStW G l bs ba D cy scr y pc L (.int b :: .int a :: st) μ (pc + 3) (L) (st) (μ) := by
  intro p e R s m args below meth c H locs cells slots Q ls hC hW hL hlo hce hsl K
  obtain ⟨hx, hb, hml, hown, hts, hK, hin, hfr, hlr⟩ := hC
  simp only [Nat.sub_self, Nat.add_zero] at K
  exact lv_icmp_ne hx hb hd ht (fun h => absurd h hc) (fun _ => K H locs ls hW hL hlo)
theorem mx_if_lt_t {x : Int32} {o : Int} {t : Nat} (hd : decode (rB (G y)) pc = .ok (.ifCond .lt o, 3)) (ht : (pc : Int) + o = (t : Int)) (hc : x < 0) : mStW G l bs ba D cy scr y pc L (.int x :: st) μ (t) (L) (st) (μ) := by
  intro p e R s m args below meth c H locs cells slots Q ls hC hW hL hlo hce hsl K
  obtain ⟨hx, hb, hml, hown, hts, hK, hin, hfr, hlr⟩ := hC
  simp only [Nat.sub_self, Nat.add_zero] at K
  exact lv_if_lt hx hb hd ht (fun _ => K H locs ls hW hL hlo) (fun h => absurd hc h)
theorem mx_if_lt_f {x : Int32} {o : Int} {t : Nat} (hd : decode (rB (G y)) pc = .ok (.ifCond .lt o, 3)) (ht : (pc : Int) + o = (t : Int)) (hc : ¬ (x < 0)) : mStW G l bs ba D cy scr y pc L (.int x :: st) μ (pc + 3) (L) (st) (μ) := by
  intro p e R s m args below meth c H locs cells slots Q ls hC hW hL hlo hce hsl K
  obtain ⟨hx, hb, hml, hown, hts, hK, hin, hfr, hlr⟩ := hC
  simp only [Nat.sub_self, Nat.add_zero] at K
  exact lv_if_lt hx hb hd ht (fun h => absurd h hc) (fun _ => K H locs ls hW hL hlo)
theorem mx_icmp_lt_t {a b : Int32} {o : Int} {t : Nat} (hd : decode (rB (G y)) pc = .ok (.if_icmp .lt o, 3)) (ht : (pc : Int) + o = (t : Int)) (hc : a < b) : mStW G l bs ba D cy scr y pc L (.int b :: .int a :: st) μ (t) (L) (st) (μ) := by
  intro p e R s m args below meth c H locs cells slots Q ls hC hW hL hlo hce hsl K
  obtain ⟨hx, hb, hml, hown, hts, hK, hin, hfr, hlr⟩ := hC
  simp only [Nat.sub_self, Nat.add_zero] at K
  exact lv_icmp_lt hx hb hd ht (fun _ => K H locs ls hW hL hlo) (fun h => absurd hc h)
theorem mx_icmp_lt_f {a b : Int32} {o : Int} {t : Nat} (hd : decode (rB (G y)) pc = .ok (.if_icmp .lt o, 3)) (ht : (pc : Int) + o = (t : Int)) (hc : ¬ (a < b)) : mStW G l bs ba D cy scr y pc L (.int b :: .int a :: st) μ (pc + 3) (L) (st) (μ) := by
  intro p e R s m args below meth c H locs cells slots Q ls hC hW hL hlo hce hsl K
  obtain ⟨hx, hb, hml, hown, hts, hK, hin, hfr, hlr⟩ := hC
  simp only [Nat.sub_self, Nat.add_zero] at K
  exact lv_icmp_lt hx hb hd ht (fun h => absurd h hc) (fun _ => K H locs ls hW hL hlo)
theorem mx_if_ge_t {x : Int32} {o : Int} {t : Nat} (hd : decode (rB (G y)) pc = .ok (.ifCond .ge o, 3)) (ht : (pc : Int) + o = (t : Int)) (hc : 0 ≤ x) : mStW G l bs ba D cy scr y pc L (.int x :: st) μ (t) (L) (st) (μ) := by
  intro p e R s m args below meth c H locs cells slots Q ls hC hW hL hlo hce hsl K
  obtain ⟨hx, hb, hml, hown, hts, hK, hin, hfr, hlr⟩ := hC
  simp only [Nat.sub_self, Nat.add_zero] at K
  exact lv_if_ge hx hb hd ht (fun _ => K H locs ls hW hL hlo) (fun h => absurd hc h)
theorem mx_if_ge_f {x : Int32} {o : Int} {t : Nat} (hd : decode (rB (G y)) pc = .ok (.ifCond .ge o, 3)) (ht : (pc : Int) + o = (t : Int)) (hc : ¬ (0 ≤ x)) : mStW G l bs ba D cy scr y pc L (.int x :: st) μ (pc + 3) (L) (st) (μ) := by
  intro p e R s m args below meth c H locs cells slots Q ls hC hW hL hlo hce hsl K
  obtain ⟨hx, hb, hml, hown, hts, hK, hin, hfr, hlr⟩ := hC
  simp only [Nat.sub_self, Nat.add_zero] at K
  exact lv_if_ge hx hb hd ht (fun h => absurd h hc) (fun _ => K H locs ls hW hL hlo)
theorem mx_icmp_ge_t {a b : Int32} {o : Int} {t : Nat} (hd : decode (rB (G y)) pc = .ok (.if_icmp .ge o, 3)) (ht : (pc : Int) + o = (t : Int)) (hc : b ≤ a) : mStW G l bs ba D cy scr y pc L (.int b :: .int a :: st) μ (t) (L) (st) (μ) := by
  intro p e R s m args below meth c H locs cells slots Q ls hC hW hL hlo hce hsl K
  obtain ⟨hx, hb, hml, hown, hts, hK, hin, hfr, hlr⟩ := hC
  simp only [Nat.sub_self, Nat.add_zero] at K
  exact lv_icmp_ge hx hb hd ht (fun _ => K H locs ls hW hL hlo) (fun h => absurd hc h)
theorem mx_icmp_ge_f {a b : Int32} {o : Int} {t : Nat} (hd : decode (rB (G y)) pc = .ok (.if_icmp .ge o, 3)) (ht : (pc : Int) + o = (t : Int)) (hc : ¬ (b ≤ a)) : mStW G l bs ba D cy scr y pc L (.int b :: .int a :: st) μ (pc + 3) (L) (st) (μ) := by
  intro p e R s m args below meth c H locs cells slots Q ls hC hW hL hlo hce hsl K
  obtain ⟨hx, hb, hml, hown, hts, hK, hin, hfr, hlr⟩ := hC
  simp only [Nat.sub_self, Nat.add_zero] at K
  exact lv_icmp_ge hx hb hd ht (fun h => absurd h hc) (fun _ => K H locs ls hW hL hlo)
theorem mx_if_gt_t {x : Int32} {o : Int} {t : Nat} (hd : decode (rB (G y)) pc = .ok (.ifCond .gt o, 3)) (ht : (pc : Int) + o = (t : Int)) (hc : 0 < x) : mStW G l bs ba D cy scr y pc L (.int x :: st) μ (t) (L) (st) (μ) := by
  intro p e R s m args below meth c H locs cells slots Q ls hC hW hL hlo hce hsl K
  obtain ⟨hx, hb, hml, hown, hts, hK, hin, hfr, hlr⟩ := hC
  simp only [Nat.sub_self, Nat.add_zero] at K
  exact lv_if_gt hx hb hd ht (fun _ => K H locs ls hW hL hlo) (fun h => absurd hc h)
theorem mx_if_gt_f {x : Int32} {o : Int} {t : Nat} (hd : decode (rB (G y)) pc = .ok (.ifCond .gt o, 3)) (ht : (pc : Int) + o = (t : Int)) (hc : ¬ (0 < x)) : mStW G l bs ba D cy scr y pc L (.int x :: st) μ (pc + 3) (L) (st) (μ) := by
  intro p e R s m args below meth c H locs cells slots Q ls hC hW hL hlo hce hsl K
  obtain ⟨hx, hb, hml, hown, hts, hK, hin, hfr, hlr⟩ := hC
  simp only [Nat.sub_self, Nat.add_zero] at K
  exact lv_if_gt hx hb hd ht (fun h => absurd h hc) (fun _ => K H locs ls hW hL hlo)
theorem mx_icmp_gt_t {a b : Int32} {o : Int} {t : Nat} (hd : decode (rB (G y)) pc = .ok (.if_icmp .gt o, 3)) (ht : (pc : Int) + o = (t : Int)) (hc : b < a) : mStW G l bs ba D cy scr y pc L (.int b :: .int a :: st) μ (t) (L) (st) (μ) := by
  intro p e R s m args below meth c H locs cells slots Q ls hC hW hL hlo hce hsl K
  obtain ⟨hx, hb, hml, hown, hts, hK, hin, hfr, hlr⟩ := hC
  simp only [Nat.sub_self, Nat.add_zero] at K
  exact lv_icmp_gt hx hb hd ht (fun _ => K H locs ls hW hL hlo) (fun h => absurd hc h)
theorem mx_icmp_gt_f {a b : Int32} {o : Int} {t : Nat} (hd : decode (rB (G y)) pc = .ok (.if_icmp .gt o, 3)) (ht : (pc : Int) + o = (t : Int)) (hc : ¬ (b < a)) : mStW G l bs ba D cy scr y pc L (.int b :: .int a :: st) μ (pc + 3) (L) (st) (μ) := by
  intro p e R s m args below meth c H locs cells slots Q ls hC hW hL hlo hce hsl K
  obtain ⟨hx, hb, hml, hown, hts, hK, hin, hfr, hlr⟩ := hC
  simp only [Nat.sub_self, Nat.add_zero] at K
  exact lv_icmp_gt hx hb hd ht (fun h => absurd h hc) (fun _ => K H locs ls hW hL hlo)
theorem mx_if_le_t {x : Int32} {o : Int} {t : Nat} (hd : decode (rB (G y)) pc = .ok (.ifCond .le o, 3)) (ht : (pc : Int) + o = (t : Int)) (hc : x ≤ 0) : mStW G l bs ba D cy scr y pc L (.int x :: st) μ (t) (L) (st) (μ) := by
  intro p e R s m args below meth c H locs cells slots Q ls hC hW hL hlo hce hsl K
  obtain ⟨hx, hb, hml, hown, hts, hK, hin, hfr, hlr⟩ := hC
  simp only [Nat.sub_self, Nat.add_zero] at K
  exact lv_if_le hx hb hd ht (fun _ => K H locs ls hW hL hlo) (fun h => absurd hc h)
theorem mx_if_le_f {x : Int32} {o : Int} {t : Nat} (hd : decode (rB (G y)) pc = .ok (.ifCond .le o, 3)) (ht : (pc : Int) + o = (t : Int)) (hc : ¬ (x ≤ 0)) : mStW G l bs ba D cy scr y pc L (.int x :: st) μ (pc + 3) (L) (st) (μ) := by
  intro p e R s m args below meth c H locs cells slots Q ls hC hW hL hlo hce hsl K
  obtain ⟨hx, hb, hml, hown, hts, hK, hin, hfr, hlr⟩ := hC
  simp only [Nat.sub_self, Nat.add_zero] at K
  exact lv_if_le hx hb hd ht (fun h => absurd h hc) (fun _ => K H locs ls hW hL hlo)
theorem mx_icmp_le_t {a b : Int32} {o : Int} {t : Nat} (hd : decode (rB (G y)) pc = .ok (.if_icmp .le o, 3)) (ht : (pc : Int) + o = (t : Int)) (hc : a ≤ b) : mStW G l bs ba D cy scr y pc L (.int b :: .int a :: st) μ (t) (L) (st) (μ) := by
  intro p e R s m args below meth c H locs cells slots Q ls hC hW hL hlo hce hsl K
  obtain ⟨hx, hb, hml, hown, hts, hK, hin, hfr, hlr⟩ := hC
  simp only [Nat.sub_self, Nat.add_zero] at K
  exact lv_icmp_le hx hb hd ht (fun _ => K H locs ls hW hL hlo) (fun h => absurd hc h)
theorem mx_icmp_le_f {a b : Int32} {o : Int} {t : Nat} (hd : decode (rB (G y)) pc = .ok (.if_icmp .le o, 3)) (ht : (pc : Int) + o = (t : Int)) (hc : ¬ (a ≤ b)) : mStW G l bs ba D cy scr y pc L (.int b :: .int a :: st) μ (pc + 3) (L) (st) (μ) := by
  intro p e R s m args below meth c H locs cells slots Q ls hC hW hL hlo hce hsl K
  obtain ⟨hx, hb, hml, hown, hts, hK, hin, hfr, hlr⟩ := hC
  simp only [Nat.sub_self, Nat.add_zero] at K
  exact lv_icmp_le hx hb hd ht (fun h => absurd h hc) (fun _ => K H locs ls hW hL hlo)
theorem mx_ifnull_t {a : Nat} {o : Int} {t : Nat} (hd : decode (rB (G y)) pc = .ok (.ifnull o, 3)) (ht : (pc : Int) + o = (t : Int)) (hc : a = 0) : mStW G l bs ba D cy scr y pc L (.ref a :: st) μ (t) (L) (st) (μ) := by
  intro p e R s m args below meth c H locs cells slots Q ls hC hW hL hlo hce hsl K
  obtain ⟨hx, hb, hml, hown, hts, hK, hin, hfr, hlr⟩ := hC
  simp only [Nat.sub_self, Nat.add_zero] at K
  subst hc
  exact lv_ifnullN hx hb hd ht (K H locs ls hW hL hlo)
theorem mx_ifnull_f {a : Nat} {o : Int} (hd : decode (rB (G y)) pc = .ok (.ifnull o, 3)) (hc : ¬ a = 0) : mStW G l bs ba D cy scr y pc L (.ref a :: st) μ (pc + 3) (L) (st) (μ) := by
  intro p e R s m args below meth c H locs cells slots Q ls hC hW hL hlo hce hsl K
  obtain ⟨hx, hb, hml, hown, hts, hK, hin, hfr, hlr⟩ := hC
  simp only [Nat.sub_self, Nat.add_zero] at K
  simp only [List.map_cons, mTr, if_neg hc]
  exact lv_ifnull hx hb hd (K H locs ls hW hL hlo)
theorem mx_ifnonnull_t {a : Nat} {o : Int} {t : Nat} (hd : decode (rB (G y)) pc = .ok (.ifnonnull o, 3)) (ht : (pc : Int) + o = (t : Int)) (hc : ¬ a = 0) : mStW G l bs ba D cy scr y pc L (.ref a :: st) μ (t) (L) (st) (μ) := by
  intro p e R s m args below meth c H locs cells slots Q ls hC hW hL hlo hce hsl K
  obtain ⟨hx, hb, hml, hown, hts, hK, hin, hfr, hlr⟩ := hC
  simp only [Nat.sub_self, Nat.add_zero] at K
  simp only [List.map_cons, mTr, if_neg hc]
  exact lv_ifnonnull hx hb hd ht (K H locs ls hW hL hlo)
theorem mx_ifnonnull_f {a : Nat} {o : Int} (hd : decode (rB (G y)) pc = .ok (.ifnonnull o, 3)) (hc : a = 0) : mStW G l bs ba D cy scr y pc L (.ref a :: st) μ (pc + 3) (L) (st) (μ) := by
  intro p e R s m args below meth c H locs cells slots Q ls hC hW hL hlo hce hsl K
  obtain ⟨hx, hb, hml, hown, hts, hK, hin, hfr, hlr⟩ := hC
  simp only [Nat.sub_self, Nat.add_zero] at K
  subst hc
  exact lv_ifnonnullN hx hb hd (K H locs ls hW hL hlo)
theorem mx_getfield {i a c0 n k : Nat} (hd : decode (rB (G y)) pc = .ok (.getfield i, 3)) (hs : mS μ a = (c0, n)) (hc : c0 < 10) (hk : k < mN c0) (hw : Cond.fieldLink (mR (rO (G y))) i (mTb c0 k).1 (mTb c0 k).2.1 (mTb c0 k).2.2.1 ∈ mGd) : mStW G l bs ba D cy scr y pc L (.ref a :: st) μ (pc + 3) (L) (mVl μ (mTy c0 k) a k :: st) (μ) := by
  intro p e R s m args below meth c H locs cells slots Q ls hC hW hL hlo hce hsl K
  obtain ⟨hx, hb, hml, hown, hts, hK, hin, hfr, hlr⟩ := hC
  simp only [Nat.sub_self, Nat.add_zero] at K
  exact mr_get hx hb hts hown hK hW hs hc hk hw hd (K H locs ls hW hL hlo)
theorem mx_putfield {i a c0 n k : Nat} {v : Value} (hd : decode (rB (G y)) pc = .ok (.putfield i, 3)) (hs : mS μ a = (c0, n)) (hc : c0 < 10) (hk : k < mN c0) (hw : Cond.fieldLink (mR (rO (G y))) i (mTb c0 k).1 (mTb c0 k).2.1 (mTb c0 k).2.2.1 ∈ mGd) (hset : mSet μ (mTy c0 k) a k v = some μ') (hfin : (mTb c0 k).2.2.2 = true → (rY (G y)).name = "<init>" ∧ (mTb c0 k).1 = mR (rO (G y))) : mStW G l bs ba D cy scr y pc L (v :: .ref a :: st) μ (pc + 3) (L) (st) (μ') := by
  intro p e R s m args below meth c H locs cells slots Q ls hC hW hL hlo hce hsl K
  obtain ⟨hx, hb, hml, hown, hts, hK, hin, hfr, hlr⟩ := hC
  rw [(mSet_S hset).2.1, (mSet_S hset).2.2] at K
  simp only [Nat.sub_self, Nat.add_zero] at K
  have ha2 := (hW.2.2.2.1 a c0 n hs (by omega)).1
  exact mr_put hx hb hts hown hK hW hs hc hk hw hset (fun h => ⟨hin (hfin h).1, (hfin h).2⟩) hd (fun H1 lc hlc hW1 => K H1 _ ls hW1 hL (fun q hq => by
    rcases List.mem_append.mp hq with h1 | h1
    · exact hlo q h1
    · rw [List.mem_singleton.mp h1, hlc, mAd_ge ha2]; omega))
theorem mx_iaload {a t n : Nat} {j : Int32} (hd : decode (rB (G y)) pc = .ok (.iaload, 1)) (hs : mS μ a = (t, n)) (ht : t = 10 ∨ t = 98) (hin0 : ¬ (j < 0 ∨ n ≤ j.toNatClampNeg)) : mStW G l bs ba D cy scr y pc L (.int j :: .ref a :: st) μ (pc + 1) (L) (.int (mI μ a j.toNatClampNeg) :: st) (μ) := by
  intro p e R s m args below meth c H locs cells slots Q ls hC hW hL hlo hce hsl K
  obtain ⟨hx, hb, hml, hown, hts, hK, hin, hfr, hlr⟩ := hC
  simp only [Nat.sub_self, Nat.add_zero] at K
  exact mr_iald hx hb hK hW hs ht hin0 hd (K H locs ls hW hL hlo)
theorem mx_faload {a n : Nat} {j : Int32} (hd : decode (rB (G y)) pc = .ok (.faload, 1)) (hs : mS μ a = (11, n)) (hin0 : ¬ (j < 0 ∨ n ≤ j.toNatClampNeg)) : mStW G l bs ba D cy scr y pc L (.int j :: .ref a :: st) μ (pc + 1) (L) (.float (mF μ a j.toNatClampNeg) :: st) (μ) := by
  intro p e R s m args below meth c H locs cells slots Q ls hC hW hL hlo hce hsl K
  obtain ⟨hx, hb, hml, hown, hts, hK, hin, hfr, hlr⟩ := hC
  simp only [Nat.sub_self, Nat.add_zero] at K
  exact mr_fald hx hb hK hW hs hin0 hd (K H locs ls hW hL hlo)
theorem mx_baload {a n : Nat} {j : Int32} (hd : decode (rB (G y)) pc = .ok (.baload, 1)) (hs : mS μ a = (12, n)) (hin0 : ¬ (j < 0 ∨ n ≤ j.toNatClampNeg)) : mStW G l bs ba D cy scr y pc L (.int j :: .ref a :: st) μ (pc + 1) (L) (.int (mI μ a j.toNatClampNeg) :: st) (μ) := by
  intro p e R s m args below meth c H locs cells slots Q ls hC hW hL hlo hce hsl K
  obtain ⟨hx, hb, hml, hown, hts, hK, hin, hfr, hlr⟩ := hC
  simp only [Nat.sub_self, Nat.add_zero] at K
  exact mr_zald hx hb hK hW hs hin0 hd (K H locs ls hW hL hlo)
theorem mx_aaload {a c0 n : Nat} {j : Int32} (hd : decode (rB (G y)) pc = .ok (.aaload, 1)) (hs : mS μ a = (20 + c0, n)) (hc : c0 = 1 ∨ c0 = 4 ∨ c0 = 6) (hin0 : ¬ (j < 0 ∨ n ≤ j.toNatClampNeg)) : mStW G l bs ba D cy scr y pc L (.int j :: .ref a :: st) μ (pc + 1) (L) (.ref (mP μ a j.toNatClampNeg) :: st) (μ) := by
  intro p e R s m args below meth c H locs cells slots Q ls hC hW hL hlo hce hsl K
  obtain ⟨hx, hb, hml, hown, hts, hK, hin, hfr, hlr⟩ := hC
  simp only [Nat.sub_self, Nat.add_zero] at K
  exact mr_aald hx hb hK hW hs hc hin0 hd (K H locs ls hW hL hlo)
theorem mx_iastore {a n : Nat} {j : Int32} {x : Int32} (hd : decode (rB (G y)) pc = .ok (.iastore, 1)) (hs : mS μ a = (10, n)) (hin0 : ¬ (j < 0 ∨ n ≤ j.toNatClampNeg)) (hset : mSet μ 0 a j.toNatClampNeg (.int x) = some μ') : mStW G l bs ba D cy scr y pc L (.int x :: .int j :: .ref a :: st) μ (pc + 1) (L) (st) (μ') := by
  intro p e R s m args below meth c H locs cells slots Q ls hC hW hL hlo hce hsl K
  obtain ⟨hx, hb, hml, hown, hts, hK, hin, hfr, hlr⟩ := hC
  rw [(mSet_S hset).2.1, (mSet_S hset).2.2] at K
  simp only [Nat.sub_self, Nat.add_zero] at K
  have ha2 := (hW.2.2.2.1 a 10 n hs (by omega)).1
  exact mr_iast hx hb hK hW hs hin0 hset hd (fun H1 lc hlc hW1 => K H1 _ ls hW1 hL (fun q hq => by
    rcases List.mem_append.mp hq with h1 | h1
    · exact hlo q h1
    · rw [List.mem_singleton.mp h1, hlc, mAd_ge ha2]; omega))
theorem mx_fastore {a n : Nat} {j : Int32} {x : UInt32} (hd : decode (rB (G y)) pc = .ok (.fastore, 1)) (hs : mS μ a = (11, n)) (hin0 : ¬ (j < 0 ∨ n ≤ j.toNatClampNeg)) (hset : mSet μ 1 a j.toNatClampNeg (.float x) = some μ') : mStW G l bs ba D cy scr y pc L (.float x :: .int j :: .ref a :: st) μ (pc + 1) (L) (st) (μ') := by
  intro p e R s m args below meth c H locs cells slots Q ls hC hW hL hlo hce hsl K
  obtain ⟨hx, hb, hml, hown, hts, hK, hin, hfr, hlr⟩ := hC
  rw [(mSet_S hset).2.1, (mSet_S hset).2.2] at K
  simp only [Nat.sub_self, Nat.add_zero] at K
  have ha2 := (hW.2.2.2.1 a 11 n hs (by omega)).1
  exact mr_fast hx hb hK hW hs hin0 hset hd (fun H1 lc hlc hW1 => K H1 _ ls hW1 hL (fun q hq => by
    rcases List.mem_append.mp hq with h1 | h1
    · exact hlo q h1
    · rw [List.mem_singleton.mp h1, hlc, mAd_ge ha2]; omega))
theorem mx_bastore {a n : Nat} {j : Int32} {x : Int32} (hd : decode (rB (G y)) pc = .ok (.bastore, 1)) (hs : mS μ a = (12, n)) (hin0 : ¬ (j < 0 ∨ n ≤ j.toNatClampNeg)) (hset : mSet μ 4 a j.toNatClampNeg (.int x) = some μ') : mStW G l bs ba D cy scr y pc L (.int x :: .int j :: .ref a :: st) μ (pc + 1) (L) (st) (μ') := by
  intro p e R s m args below meth c H locs cells slots Q ls hC hW hL hlo hce hsl K
  obtain ⟨hx, hb, hml, hown, hts, hK, hin, hfr, hlr⟩ := hC
  rw [(mSet_S hset).2.1, (mSet_S hset).2.2] at K
  simp only [Nat.sub_self, Nat.add_zero] at K
  have ha2 := (hW.2.2.2.1 a 12 n hs (by omega)).1
  exact mr_zast hx hb hK hW hs hin0 hset hd (fun H1 lc hlc hW1 => K H1 _ ls hW1 hL (fun q hq => by
    rcases List.mem_append.mp hq with h1 | h1
    · exact hlo q h1
    · rw [List.mem_singleton.mp h1, hlc, mAd_ge ha2]; omega))
theorem mx_aastore {a c0 n q nq : Nat} {j : Int32} (hd : decode (rB (G y)) pc = .ok (.aastore, 1)) (hs : mS μ a = (20 + c0, n)) (hc : c0 = 1 ∨ c0 = 4 ∨ c0 = 6) (hin0 : ¬ (j < 0 ∨ n ≤ j.toNatClampNeg)) (hq : mS μ q = (c0, nq)) (hset : mSet μ 3 a j.toNatClampNeg (.ref q) = some μ') : mStW G l bs ba D cy scr y pc L (.ref q :: .int j :: .ref a :: st) μ (pc + 1) (L) (st) (μ') := by
  intro p e R s m args below meth c H locs cells slots Q ls hC hW hL hlo hce hsl K
  obtain ⟨hx, hb, hml, hown, hts, hK, hin, hfr, hlr⟩ := hC
  rw [(mSet_S hset).2.1, (mSet_S hset).2.2] at K
  simp only [Nat.sub_self, Nat.add_zero] at K
  have ha2 := (hW.2.2.2.1 a (20 + c0) n hs (by omega)).1
  exact mr_aast hx hb hK hW hs hc hin0 hq hset hd (fun H1 lc hlc hW1 => K H1 _ ls hW1 hL (fun q hq => by
    rcases List.mem_append.mp hq with h1 | h1
    · exact hlo q h1
    · rw [List.mem_singleton.mp h1, hlc, mAd_ge ha2]; omega))
theorem mx_arraylength {a n : Nat} (hd : decode (rB (G y)) pc = .ok (.arraylength, 1)) (hs : mS μ a = (98, n)) : mStW G l bs ba D cy scr y pc L (.ref a :: st) μ (pc + 1) (L) (.int (Int32.ofNat n) :: st) (μ) := by
  intro p e R s m args below meth c H locs cells slots Q ls hC hW hL hlo hce hsl K
  obtain ⟨hx, hb, hml, hown, hts, hK, hin, hfr, hlr⟩ := hC
  simp only [Nat.sub_self, Nat.add_zero] at K
  exact mr_alen hx hb hK hW hs hd (K H locs ls hW hL hlo)
theorem mx_new {i c0 : Nat} (hd : decode (rB (G y)) pc = .ok (.new i, 3)) (hc : c0 < 10) (hw : Cond.classLink (mR (rO (G y))) i (mR c0) ∈ mGd) : mStW G l bs ba D cy scr y pc L (st) μ (pc + 3) (L) (.ref (mNx μ) :: st) (mNew μ c0 (mN c0)) := by
  intro p e R s m args below meth c H locs cells slots Q ls hC hW hL hlo hce hsl K
  obtain ⟨hx, hb, hml, hown, hts, hK, hin, hfr, hlr⟩ := hC
  have e1 : mNx (mNew μ c0 (mN c0)) - mNx μ = 1 := by show mNx μ + 1 - mNx μ = 1; omega
  have e2 : mSl (mNew μ c0 (mN c0)) - mSl μ = (mN c0) := by show mSl μ + (mN c0) - mSl μ = (mN c0); omega
  rw [e1, e2] at K
  rw [e1] at hce
  rw [e2] at hsl
  exact mr_new hx hb hts hown hK hW hc hw hce hsl hd (fun H1 hW1 => K H1 locs ls hW1 hL hlo)
theorem mx_newarray_i {j : Int32} (hd : decode (rB (G y)) pc = .ok (.newarray .int, 2)) (hj : ¬ j < 0 ∧ j.toNatClampNeg ≤ 10000) : mStW G l bs ba D cy scr y pc L (.int j :: st) μ (pc + 2) (L) (.ref (mNx μ) :: st) (mNew μ 10 j.toNatClampNeg) := by
  intro p e R s m args below meth c H locs cells slots Q ls hC hW hL hlo hce hsl K
  obtain ⟨hx, hb, hml, hown, hts, hK, hin, hfr, hlr⟩ := hC
  have e1 : mNx (mNew μ 10 j.toNatClampNeg) - mNx μ = 1 := by show mNx μ + 1 - mNx μ = 1; omega
  have e2 : mSl (mNew μ 10 j.toNatClampNeg) - mSl μ = j.toNatClampNeg := by show mSl μ + j.toNatClampNeg - mSl μ = j.toNatClampNeg; omega
  rw [e1, e2] at K
  rw [e1] at hce
  rw [e2] at hsl
  exact mr_newa (t := 10) (t0 := 0) (ty := .int) hx hb hts hK hW rfl rfl (fun C h => by cases h) (by omega) (by omega) (fun k => rfl) (by decide) (mGd_in mAc_i rfl) hj.1 hj.2 hce hsl hd (fun H1 hW1 => K H1 locs ls hW1 hL hlo)
theorem mx_newarray_f {j : Int32} (hd : decode (rB (G y)) pc = .ok (.newarray .float, 2)) (hj : ¬ j < 0 ∧ j.toNatClampNeg ≤ 10000) : mStW G l bs ba D cy scr y pc L (.int j :: st) μ (pc + 2) (L) (.ref (mNx μ) :: st) (mNew μ 11 j.toNatClampNeg) := by
  intro p e R s m args below meth c H locs cells slots Q ls hC hW hL hlo hce hsl K
  obtain ⟨hx, hb, hml, hown, hts, hK, hin, hfr, hlr⟩ := hC
  have e1 : mNx (mNew μ 11 j.toNatClampNeg) - mNx μ = 1 := by show mNx μ + 1 - mNx μ = 1; omega
  have e2 : mSl (mNew μ 11 j.toNatClampNeg) - mSl μ = j.toNatClampNeg := by show mSl μ + j.toNatClampNeg - mSl μ = j.toNatClampNeg; omega
  rw [e1, e2] at K
  rw [e1] at hce
  rw [e2] at hsl
  exact mr_newa (t := 11) (t0 := 1) (ty := .float) hx hb hts hK hW rfl rfl (fun C h => by cases h) (by omega) (by omega) (fun k => rfl) (by decide) (mGd_in mAc_f rfl) hj.1 hj.2 hce hsl hd (fun H1 hW1 => K H1 locs ls hW1 hL hlo)
theorem mx_newarray_z {j : Int32} (hd : decode (rB (G y)) pc = .ok (.newarray .boolean, 2)) (hj : ¬ j < 0 ∧ j.toNatClampNeg ≤ 10000) : mStW G l bs ba D cy scr y pc L (.int j :: st) μ (pc + 2) (L) (.ref (mNx μ) :: st) (mNew μ 12 j.toNatClampNeg) := by
  intro p e R s m args below meth c H locs cells slots Q ls hC hW hL hlo hce hsl K
  obtain ⟨hx, hb, hml, hown, hts, hK, hin, hfr, hlr⟩ := hC
  have e1 : mNx (mNew μ 12 j.toNatClampNeg) - mNx μ = 1 := by show mNx μ + 1 - mNx μ = 1; omega
  have e2 : mSl (mNew μ 12 j.toNatClampNeg) - mSl μ = j.toNatClampNeg := by show mSl μ + j.toNatClampNeg - mSl μ = j.toNatClampNeg; omega
  rw [e1, e2] at K
  rw [e1] at hce
  rw [e2] at hsl
  exact mr_newa (t := 12) (t0 := 2) (ty := .boolean) hx hb hts hK hW rfl rfl (fun C h => by cases h) (by omega) (by omega) (fun k => rfl) (by decide) (mGd_in mAc_z rfl) hj.1 hj.2 hce hsl hd (fun H1 hW1 => K H1 locs ls hW1 hL hlo)
theorem mx_anewarray {i c0 : Nat} {j : Int32} (hd : decode (rB (G y)) pc = .ok (.anewarray i, 3)) (hc : c0 = 1 ∨ c0 = 4 ∨ c0 = 6) (hw : Cond.classLink (mR (rO (G y))) i (mR c0) ∈ mGd) (hj : ¬ j < 0 ∧ j.toNatClampNeg ≤ 10000) : mStW G l bs ba D cy scr y pc L (.int j :: st) μ (pc + 3) (L) (.ref (mNx μ) :: st) (mNew μ (20 + c0) j.toNatClampNeg) := by
  intro p e R s m args below meth c H locs cells slots Q ls hC hW hL hlo hce hsl K
  obtain ⟨hx, hb, hml, hown, hts, hK, hin, hfr, hlr⟩ := hC
  have e1 : mNx (mNew μ (20 + c0) j.toNatClampNeg) - mNx μ = 1 := by show mNx μ + 1 - mNx μ = 1; omega
  have e2 : mSl (mNew μ (20 + c0) j.toNatClampNeg) - mSl μ = j.toNatClampNeg := by show mSl μ + j.toNatClampNeg - mSl μ = j.toNatClampNeg; omega
  rw [e1, e2] at K
  rw [e1] at hce
  rw [e2] at hsl
  have hao : Cond.arrayOver (.object (mR c0)) ∈ lw_tbl := by
    rcases hc with rfl | rfl | rfl
    · exact mWd_in mAo_1
    · exact mWd_in mAo_4
    · exact mWd_in mAo_6
  exact mr_newq hx hb hts hown hK hW hc hw hao hj.1 hj.2 hce hsl hd (fun H1 hW1 => K H1 locs ls hW1 hL hlo)
theorem mx_objInit {i a : Nat} (hd : decode (rB (G y)) pc = .ok (.invokespecial i, 3)) (hw : Cond.methodLink (mR (rO (G y))) i Lib.objectInit ∈ mGd) (h1 : Cond.instanceMethod Lib.objectInit ∈ mGd) (h2 : Cond.code Lib.objectInit ⟨#[0xb1]⟩ 1 none ∈ mGd) (ha : a ≠ 0) (hcat : mCat st ≤ 8) (hf1 : 1 ≤ rFr (G y)) (hl1 : 20 ≤ rLo (G y)) : mStW G l bs ba D cy scr y pc L (.ref a :: st) μ (pc + 3) (L) (st) (μ) := by
  intro p e R s m args below meth c H locs cells slots Q ls hC hW hL hlo hce hsl K
  obtain ⟨hx, hb, hml, hown, hts, hK, hin, hfr, hlr⟩ := hC
  simp only [Nat.sub_self, Nat.add_zero] at K
  simp only [List.map_cons, mTr, if_neg ha]
  have hcat2 : ((st.map (mTr bs ba)).map fun v => v.category).sum ≤ 8 := by
    rw [List.map_map]
    have : ((fun v : Value => v.category) ∘ mTr bs ba) = fun v : Value => v.category := by funext v; exact mTr_cat bs ba v
    rw [this]; exact hcat
  refine W.objInit hx hb hown (hts _ hw) (hts _ h1) (hts _ h2) rfl (by rw [hml]; exact hL.2.1) rfl hd (Nat.le_trans hf1 hfr) ?_ (K H locs ls hW hL hlo)
  have := lv_room (m := m) (pc := pc) (ls := ls) (rest := st.map (mTr bs ba)) hcat2
  simp only [JFrame.monitorRoom] at this ⊢
  omega
theorem mx_min {i : Nat} {a b : Int32} (hd : decode (rB (G y)) pc = .ok (.invokestatic i, 3)) (hw : Cond.methodLink (mR (rO (G y))) i Lib.Math.min.name ∈ mGd) (hm : ∀ w ∈ mMathW, w ∈ mGd) (hcat : mCat st ≤ 8) (hf1 : 1 ≤ rFr (G y)) (hl1 : 21 ≤ rLo (G y)) : mStW G l bs ba D cy scr y pc L (.int b :: .int a :: st) μ (pc + 3) (L) (.int (mMin a b) :: st) (μ) := by
  intro p e R s m args below meth c H locs cells slots Q ls hC hW hL hlo hce hsl K
  obtain ⟨hx, hb, hml, hown, hts, hK, hin, hfr, hlr⟩ := hC
  simp only [Nat.sub_self, Nat.add_zero] at K
  have hcat2 : ((st.map (mTr bs ba)).map fun v => v.category).sum ≤ 8 := by
    rw [List.map_map]
    have : ((fun v : Value => v.category) ∘ mTr bs ba) = fun v : Value => v.category := by funext v; exact mTr_cat bs ba v
    rw [this]; exact hcat
  exact va_mmin hx hb (by rw [hml]; exact hL.2.1.symm) hown (hts _ hw) (hts _ (hm _ (List.mem_of_getElem? (i := 0) rfl))) (hts _ (hm _ (List.mem_of_getElem? (i := 2) rfl))) (hts _ (hm _ (List.mem_of_getElem? (i := 3) rfl))) (Nat.le_trans hf1 hfr) (by omega) (by simpa using hce) (by simpa using hsl) hd (K H locs ls hW hL hlo)
theorem mx_max {i : Nat} {a b : Int32} (hd : decode (rB (G y)) pc = .ok (.invokestatic i, 3)) (hw : Cond.methodLink (mR (rO (G y))) i Lib.Math.max.name ∈ mGd) (hm : ∀ w ∈ mMathW, w ∈ mGd) (hcat : mCat st ≤ 8) (hf1 : 1 ≤ rFr (G y)) (hl1 : 21 ≤ rLo (G y)) : mStW G l bs ba D cy scr y pc L (.int b :: .int a :: st) μ (pc + 3) (L) (.int (mMax a b) :: st) (μ) := by
  intro p e R s m args below meth c H locs cells slots Q ls hC hW hL hlo hce hsl K
  obtain ⟨hx, hb, hml, hown, hts, hK, hin, hfr, hlr⟩ := hC
  simp only [Nat.sub_self, Nat.add_zero] at K
  have hcat2 : ((st.map (mTr bs ba)).map fun v => v.category).sum ≤ 8 := by
    rw [List.map_map]
    have : ((fun v : Value => v.category) ∘ mTr bs ba) = fun v : Value => v.category := by funext v; exact mTr_cat bs ba v
    rw [this]; exact hcat
  exact va_mmax hx hb (by rw [hml]; exact hL.2.1.symm) hown (hts _ hw) (hts _ (hm _ (List.mem_of_getElem? (i := 1) rfl))) (hts _ (hm _ (List.mem_of_getElem? (i := 2) rfl))) (hts _ (hm _ (List.mem_of_getElem? (i := 4) rfl))) (Nat.le_trans hf1 hfr) (by omega) (by simpa using hce) (by simpa using hsl) hd (K H locs ls hW hL hlo)
end MX
