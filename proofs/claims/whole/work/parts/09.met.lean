/-! contracts out of the mini machine; soundness -/
def mSnd (G : Nat → mRec) (l : Launch) (bs ba : Nat) (D : va_G) (cy : Nat → ClassId) (scr : Cell) (cf : mCf) (r : Option Value × mM) : Prop :=
  ∃ en is', cf.2.1 = en :: is' ∧ ((∃ pre, rC (G cf.1) = pre ++ cf.2.1) → (mNx cf.2.2.2.2 ≤ mNx r.2 ∧ mSl cf.2.2.2.2 ≤ mSl r.2) ∧
    ∀ (p : Program) (e : Env) (R : Room) (s : State) (m : MethodId) (args : Array Value) (below : List Frame) (meth : Method) (c : Code) (H : Heap) (locs : List Loc) (cells slots : Nat) (Q : State → Prop) (ls : Array Slot),
    mCtx G D cy scr cf.1 p R s m args meth c → mW bs ba D cy scr cf.2.2.2.2 H → mLv bs ba (rL (G cf.1)) cf.2.2.1 ls → (∀ q ∈ locs, ba ≤ q.base) → cells + (mNx r.2 - mNx cf.2.2.2.2) ≤ R.cells → slots + (mSl r.2 - mSl cf.2.2.2.2) ≤ R.slots →
    (∀ (H' : Heap) (locs' : List Loc) (ls' : Array Slot) (en' : mIns), en' ∈ rC (G cf.1) → mRetOk en'.2.1 (rT (G cf.1)) r.1 → mW bs ba D cy scr r.2 H' → (∀ q ∈ locs', ba ≤ q.base) →
      W p l e R s m args below meth c H' locs' (cells + (mNx r.2 - mNx cf.2.2.2.2)) (slots + (mSl r.2 - mSl cf.2.2.2.2)) Q (F0 m en'.1 ls' ((r.1.map (mTr bs ba)).toList))) →
    W p l e R s m args below meth c H locs cells slots Q (F0 m en.1 ls (cf.2.2.2.1.map (mTr bs ba))))
def mPcD (bs ba : Nat) (D : va_G) (cy : Nat → ClassId) (scr : Cell) (as : List Value) (μ : mM) : Array Value → State → Prop := fun v U => v = (as.map (mTr bs ba)).toArray ∧ mW bs ba D cy scr μ U.heap ∧ mKn D cy scr U
def mQcD (bs ba : Nat) (D : va_G) (cy : Nat → ClassId) (scr : Cell) (v : Option Value) (μ : mM) : Array Value → State → Outcome → State → Prop := fun _ _ o t => o = .returned (v.map (mTr bs ba)) ∧ mW bs ba D cy scr μ t.heap
abbrev mWs (G : Nat → mRec) (z : Nat) : List Cond := .code (rY (G z)) (rB (G z)) (rL (G z)) (rT (G z)) :: mGd
abbrev mRm (G : Nat → mRec) (z k n : Nat) : Room := { frames := rFr (G z), cells := k, slots := n, locals := rLo (G z) }
section MT
variable {G : Nat → mRec} {NM : Nat} {l : Launch} {bs ba : Nat} {D : va_G} {cy : Nat → ClassId} {scr : Cell}
theorem mChkM_0 (hOK : mOK G NM) {z : Nat} (hz : z < NM) : Cond.code (rY (G z)) (rB (G z)) (rL (G z)) (rT (G z)) ∈ mGd ∧ Cond.initialized (rY (G z)).cls ∈ mGd ∧ (rK (G z) = 0 → Cond.static (rY (G z)) ∈ mGd) ∧ (¬ rK (G z) = 0 → Cond.instanceMethod (rY (G z)) ∈ mGd) ∧ (rK (G z) = 1 → Cond.selects (rY (G z)).cls (rY (G z)) (rY (G z)) ∈ mGd) ∧ (rY (G z)).cls = mR (rO (G z)) ∧ plainName (rY (G z)).cls = true ∧ (rY (G z)).cls ≠ "java/lang/invoke/MethodHandle" ∧ (rY (G z)).cls ≠ "java/lang/invoke/VarHandle" ∧ (parseMethodDescriptor (rY (G z)).desc).map (fun d => d.parameters.length) = some (rN (G z)) ∧ (rK (G z) = 2 → (rY (G z)).name = "<init>" ∧ rT (G z) = none) ∧ (¬ rK (G z) = 0 → rO (G z) < 10) := by
  have h := hOK.2.2.1 z hz
  unfold mChkM at h
  split at h
  · simp only [Bool.and_eq_true, decide_eq_true_eq, Bool.or_eq_true, Bool.not_eq_true', decide_eq_false_iff_not] at h
    obtain ⟨⟨⟨⟨⟨⟨⟨⟨⟨⟨⟨h0, h1⟩, h2⟩, h3⟩, h4⟩, h5⟩, h6⟩, h7⟩, h8⟩, h9⟩, h10⟩, h11⟩ := h
    refine ⟨mGd_in h0 rfl, mGd_in h1 rfl, fun hk => ?_, fun hk => ?_, fun hk => ?_, h4, h5, h6, h7, h8, fun hk => ?_, fun hk => ?_⟩
    · rw [if_pos hk] at h2
      exact mGd_in (of_decide_eq_true h2) rfl
    · rw [if_neg hk] at h2
      exact mGd_in (of_decide_eq_true h2) rfl
    · rcases h3 with h3 | h3
      · exact absurd hk h3
      · exact mGd_in h3 rfl
    · rcases h9 with h9 | h9
      · exact absurd hk h9
      · exact h9
    · rcases h11 with h11 | h11
      · exact absurd h11 hk
      · exact h11
  · cases h
theorem mGd_good (w : Cond) (h : w ∈ mGd) : goodWord w = true := (List.mem_filter.mp h).2
theorem mWs_good (hOK : mOK G NM) {z : Nat} (hz : z < NM) : GoodIn mGd (mWs G z) := by
  intro w hw
  have hm : w ∈ mGd := by
    rcases List.mem_cons.mp hw with rfl | h
    · exact (mChkM_0 hOK hz).1
    · exact h
  exact ⟨hm, good_of_word (mGd_good w hm)⟩
set_option maxHeartbeats 2000000 in
/-- a contract out of soundness at a method's entry -/
theorem mMet (hOK : mOK G NM) {z : Nat} (hz : z < NM) {as : List Value} {μ μ1 : mM} {v : Option Value} (hS : mSnd G l bs ba D cy scr (mEnter G z as μ) (v, μ1)) (hlen : (mArgs as).length ≤ rL (G z)) :
    Met l (rY (G z)) (mWs G z) (mRm G z (mNx μ1 - mNx μ) (mSl μ1 - mSl μ)) (mPcD bs ba D cy scr as μ) (mQcD bs ba D cy scr v μ1) (mNx μ1 - mNx μ) (mSl μ1 - mSl μ) (fun q => ba ≤ q) := by
  have hM := mChkM_0 hOK hz
  refine Met.ofW (cc := rB (G z)) (maxL := rL (G z)) (ret := rT (G z)) hM.2.2.2.2.2.2.1 rfl ?_
  intro p e s m args below meth c s₁ B hml hv
  obtain ⟨rfl, hW, hK⟩ := hv
  have hx := B.exec
  have hb := B.bytes
  have hr := B.returns
  have hlocks := B.notSynchronized
  have hts0 := atoms_spec (ws := mWs G z) B.pre
  have hts : ∀ w ∈ mGd, w.before (as.map (mTr bs ba)).toArray s = true := fun w hw => hts0 w (List.mem_cons_of_mem _ hw)
  have hown : s.vm.findClass (rY (G z)).cls = some m.cls := findClass_of_methodNamed B.named
  rw [hM.2.2.2.2.2.1] at hown
  have hnm : meth.name = (rY (G z)).name := (name_of_methodNamed B.named B.method).1
  rw [lg_entry_eq]
  obtain ⟨en, is', hen, K⟩ := hS
  obtain ⟨hmono, K⟩ := K ⟨[], rfl⟩
  have h0 : en.1 = 0 := hOK.2.2.2.2.2.1 z en is' hen
  have K1 := K p e (headSpec (mWs G z) (mRm G z (mNx μ1 - mNx μ) (mSl μ1 - mSl μ))).room s m (as.map (mTr bs ba)).toArray below meth c s.heap [] 0 0 (MQ below (mQcD bs ba D cy scr v μ1) (as.map (mTr bs ba)).toArray s (mNx μ1 - mNx μ) (mSl μ1 - mSl μ) (fun q => ba ≤ q)) _
    ⟨hx, hb, hml, hown, hts, hK, fun h => hnm.trans h, Nat.le_refl _, Nat.le_refl _⟩ hW (mLv_entry hlen) (fun q hq => absurd hq List.not_mem_nil) (by simp [headSpec, mEnter]) (by simp [headSpec, mEnter]) (fun H' locs' ls' en' hen' hret hW' hlo' => ?_)
  · rw [h0] at K1
    exact K1
  · have hchk := hOK.1 z en' hen'
    simp only [mChk, Bool.and_eq_true, decide_eq_true_eq, Bool.or_eq_true, beq_iff_eq] at hchk
    obtain ⟨⟨⟨hd, hl9⟩, -⟩, -⟩ := hchk
    obtain ⟨pc, i, len, aux, pl⟩ := en'
    simp only [mEnter, Nat.zero_add] at hret ⊢
    match v, hret with
    | none, hret =>
      obtain ⟨rfl, hrt⟩ := hret
      have e1 : len = 1 := by simpa [mLen] using hl9
      subst e1
      exact W.vret hx hb (hr.trans hrt) (fun t ht hw => ⟨rfl, by rw [ht]; exact hW'⟩) hlo' hd
    | some (.int x), hret =>
      obtain ⟨rfl, hrt⟩ := hret
      have e1 : len = 1 := by simpa [mLen] using hl9
      subst e1
      rcases hrt with hrt | ⟨hrt, hx01⟩
      · exact W.iret hx hb (hr.trans hrt) (fun t ht hw => ⟨rfl, by rw [ht]; exact hW'⟩) hlo' hd
      · exact W.zret hx hb (hr.trans hrt) (by rcases hx01 with rfl | rfl <;> rfl) (fun t ht hw => ⟨rfl, by rw [ht]; exact hW'⟩) hlo' hd
    | some (.long x), hret =>
      obtain ⟨rfl, hrt⟩ := hret
      have e1 : len = 1 := by simpa [mLen] using hl9
      subst e1
      exact W.lret hx hb (hr.trans hrt) (fun t ht hw => ⟨rfl, by rw [ht]; exact hW'⟩) hlo' hd
    | some (.float x), hret =>
      obtain ⟨rfl, hrt⟩ := hret
      have e1 : len = 1 := by simpa [mLen] using hl9
      subst e1
      exact W.fret hx hb (hr.trans hrt) (fun t ht hw => ⟨rfl, by rw [ht]; exact hW'⟩) hlo' hd
    | some (.ref a), hret =>
      obtain ⟨rfl, C, hrt⟩ := hret
      have e1 : len = 1 := by simpa [mLen] using hl9
      subst e1
      refine W.aret hx hb (hr.trans hrt) (Or.inl ⟨C, rfl⟩) ?_ (fun t ht hw => ⟨rfl, by rw [ht]; exact hW'⟩) hlo' hd
      simp only [mTr]
      split
      · exact Or.inl rfl
      · exact Or.inr ⟨_, rfl⟩
end MT
