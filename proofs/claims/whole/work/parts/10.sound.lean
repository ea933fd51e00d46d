/-! soundness of the mini machine -/
section MS
variable {G : Nat → mRec} {NM : Nat} {l : Launch} {bs ba : Nat} {D : va_G} {cy : Nat → ClassId} {scr : Cell}
theorem mSnd_step (hOK : mOK G NM) {c c' : mCf} {r : Option Value × mM} (h : mStep G c = some (.inl c')) (hS : mSnd G l bs ba D cy scr c' r) : mSnd G l bs ba D cy scr c r := by
  obtain ⟨y, is0, L, st, μ⟩ := c
  cases is0 with
  | nil => cases h
  | cons en is =>
    refine ⟨en, is, rfl, fun hpre0 => ?_⟩
    obtain ⟨pre, hpre⟩ := hpre0
    have hen : en ∈ rC (G y) := by rw [show rC (G y) = pre ++ en :: is from hpre]; simp
    obtain ⟨pc, i, len, aux, pl⟩ := en
    have hp := mX_plain (l := l) (bs := bs) (ba := ba) (D := D) (cy := cy) (scr := scr) hOK hen h
    obtain ⟨hy, hn, hk, hcase⟩ := hp
    obtain ⟨y2, is2, L2, st2, μ2⟩ := c'
    simp only at hy hn hk hcase
    subst hy
    obtain ⟨en', is'', e', K'⟩ := hS
    simp only at e' K' ⊢
    subst e'
    have key : (∃ pre', rC (G y2) = pre' ++ en' :: is'') ∧ mStW G l bs ba D cy scr y2 pc L st μ en'.1 L2 st2 μ2 := by
      rcases hcase with ⟨e1, hst⟩ | ⟨t, e1, hst⟩
      · refine ⟨⟨pre ++ [(pc, i, len, aux, pl)], by rw [hpre, e1]; simp⟩, ?_⟩
        have hs := hOK.2.1 y2
        rw [show rC (G y2) = pre ++ (pc, i, len, aux, pl) :: is from hpre, ← e1] at hs
        rw [mSeq_next hs]
        exact hst
      · obtain ⟨h1, pre', h2⟩ := mSeek_head e1.symm
        exact ⟨⟨pre', h2⟩, by rw [h1]; exact hst⟩
    obtain ⟨hsuf, hst⟩ := key
    obtain ⟨hmono, Kw⟩ := K' hsuf
    refine ⟨⟨by omega, by omega⟩, ?_⟩
    intro p e R s m args below meth c H locs cells slots Q ls hC hW hL hlo hce hsl E
    refine hst p e R s m args below meth c H locs cells slots Q ls hC hW hL hlo (by omega) (by omega) (fun H' locs' ls' hW' hL' hlo' => ?_)
    refine Kw p e R s m args below meth c H' locs' _ _ Q ls' hC hW' hL' hlo' (by omega) (by omega) (fun H2 locs2 ls2 en2 hen2 hret hW2 hlo2 => ?_)
    have h9 := E H2 locs2 ls2 en2 hen2 hret hW2 hlo2
    rw [show cells + (mNx μ2 - mNx μ) + (mNx r.2 - mNx μ2) = cells + (mNx r.2 - mNx μ) by omega, show slots + (mSl μ2 - mSl μ) + (mSl r.2 - mSl μ2) = slots + (mSl r.2 - mSl μ) by omega]
    exact h9
theorem mSnd_ret {c : mCf} {v : Option Value} (h : mStep G c = some (.inr (.inr v))) : mSnd G l bs ba D cy scr c (v, c.2.2.2.2) := by
  obtain ⟨y, is0, L, st, μ⟩ := c
  cases is0 with
  | nil => cases h
  | cons en is =>
    refine ⟨en, is, rfl, fun hpre0 => ?_⟩
    obtain ⟨pre, hpre⟩ := hpre0
    have hen : en ∈ rC (G y) := by rw [show rC (G y) = pre ++ en :: is from hpre]; simp
    obtain ⟨h1, h2⟩ := mX_ret h
    refine ⟨⟨Nat.le_refl _, Nat.le_refl _⟩, ?_⟩
    intro p e R s m args below meth c H locs cells slots Q ls hC hW hL hlo hce hsl E
    have h9 := E H locs ls en hen h2 hW hlo
    simp only [Nat.sub_self, Nat.add_zero] at h9
    rw [h1]
    cases v with
    | none => exact h9
    | some w => exact h9
theorem mCallK {p : Program} {e : Env} {R : Room} {s : State} {m : MethodId} {args : Array Value} {below : List Frame} {meth : Method} {c : Code} {H : Heap} {locs : List Loc} {cells slots mc ms pc : Nat} {Q : State → Prop} {ls : Array Slot} {st0 rest : List Value} {v : Option Value} {μ1 : mM} {a : Array Value} (hr : va_Run p l e R s m args below meth c H locs cells slots mc ms (F0 m pc ls st0) rest (mQcD bs ba D cy scr v μ1 a) (fun q => ba ≤ q)) (hlo : ∀ q ∈ locs, ba ≤ q.base)
    (kk : ∀ (H1 : Heap) (locs1 : List Loc), mW bs ba D cy scr μ1 H1 → (∀ q ∈ locs1, ba ≤ q.base) → W p l e R s m args below meth c H1 locs1 (cells + mc) (slots + ms) Q (F0 m (pc + 3) ls ((v.map (mTr bs ba)).toList ++ rest))) : W p l e R s m args below meth c H locs cells slots Q (F0 m pc ls st0) := by
  intro T hT X
  obtain ⟨v', st₀, t, T', L1, h0, X', hL1, e1, e2, ⟨hv, hW⟩, st⟩ := hr T hT X
  cases hv
  obtain ⟨t2, a1, b1⟩ := kk T'.heap (locs ++ L1) (by rw [e1]; exact hW) (fun q hq => by
    rcases List.mem_append.mp hq with h | h
    · exact hlo q h
    · exact hL1 q h) T' rfl X'
  exact ⟨t2, st t2 a1, b1⟩
theorem mPc_blind {as : List Value} {μ : mM} : FrameBlind (mPcD bs ba D cy scr as μ) := fun a U g mk q => ⟨q.1, q.2.1, mKn_same rfl q.2.2⟩
theorem mCat_tr (st : List Value) : ((st.map (mTr bs ba)).map fun v => v.category).sum = mCat st := by
  rw [List.map_map]
  have : ((fun v : Value => v.category) ∘ mTr bs ba) = fun v : Value => v.category := by funext v; exact mTr_cat bs ba v
  rw [this]; rfl
set_option maxHeartbeats 4000000 in
theorem mSnd_call (hOK : mOK G NM) {c : mCf} {z y0 : Nat} {as L0 st0 : List Value} {is0 : List mIns} {μ0 μ1 : mM} {v : Option Value} {r : Option Value × mM} (h : mStep G c = some (.inr (.inl (z, as, (y0, is0, L0, st0, μ0))))) (hS1 : mSnd G l bs ba D cy scr (mEnter G z as μ0) (v, μ1)) (hS2 : mSnd G l bs ba D cy scr (y0, is0, L0, v.toList ++ st0, μ1) r) : mSnd G l bs ba D cy scr c r := by
  obtain ⟨y, is9, L, st, μ⟩ := c
  cases is9 with
  | nil => cases h
  | cons en is =>
    refine ⟨en, is, rfl, fun hpre0 => ?_⟩
    obtain ⟨pre, hpre⟩ := hpre0
    have hen : en ∈ rC (G y) := by rw [show rC (G y) = pre ++ en :: is from hpre]; simp
    obtain ⟨st', hc', n, f, idx, haux, hf2, hf3, hn, hcat, hargs, hkind⟩ := mX_call h
    simp only [Prod.mk.injEq] at hc'
    obtain ⟨rfl, rfl, rfl, rfl, rfl⟩ := hc'
    obtain ⟨pc, i, len, aux, pl⟩ := en
    simp only at haux hkind hf3
    subst haux
    have hchk := hOK.1 y0 _ hen
    simp only [mChk, Bool.and_eq_true, decide_eq_true_eq, Bool.or_eq_true, beq_iff_eq] at hchk
    obtain ⟨⟨⟨hd, hl9⟩, hlk⟩, h2⟩ := hchk
    have hco0 : mCallOk G NM y0 [z, n, f] = true ∧ f ≠ 3 := by
      rcases hkind with ⟨rfl, -⟩ | ⟨⟨rfl, -⟩ | ⟨rfl, -⟩, -⟩
      · exact ⟨h2, hf3 rfl⟩
      · simp only [mChk2, Bool.and_eq_true] at h2
        exact ⟨h2.1, of_decide_eq_true h2.2⟩
      · simp only [mChk2, Bool.and_eq_true] at h2
        exact ⟨h2.1, of_decide_eq_true h2.2⟩
    obtain ⟨hco, hf33⟩ := hco0
    have hl3 : len = 3 := by
      rcases hkind with ⟨rfl, -⟩ | ⟨⟨rfl, -⟩ | ⟨rfl, -⟩, -⟩ <;> simpa [mLen] using hl9
    subst hl3
    simp only [mCallOk, if_neg hf2, if_neg hf33, Bool.and_eq_true, decide_eq_true_eq] at hco
    obtain ⟨⟨⟨hz, hfr1⟩, hlo1⟩, hf1⟩ := hco
    have hM := mChkM_0 hOK hz
    have hmet := mMet hOK hz hS1 hargs
    obtain ⟨en1, is1, e1, K1⟩ := hS1
    have hm1 := (K1 ⟨[], rfl⟩).1
    simp only [mEnter] at hm1
    obtain ⟨en', is'', e', K2⟩ := hS2
    simp only at e' K2 ⊢
    subst e'
    have hnext : en'.1 = pc + 3 := by
      have hs := hOK.2.1 y0
      rw [show rC (G y0) = pre ++ (pc, i, 3, [z, n, f], pl) :: en' :: is'' from hpre] at hs
      exact mSeq_next hs
    obtain ⟨hmono, Kw⟩ := K2 ⟨pre ++ [(pc, i, 3, [z, n, f], pl)], by rw [hpre]; simp⟩
    refine ⟨⟨by omega, by omega⟩, ?_⟩
    intro p e R s m args below meth c H locs cells slots Q ls hC hW hL hlo hce hsl E
    obtain ⟨hx, hb, hml, hown, hts, hK, hin, hfr, hlr⟩ := id hC
    have hR : rFr (G z) + 1 ≤ R.frames ∧ 8 + (rL (G z) + 11) + rLo (G z) ≤ R.locals := ⟨by omega, by omega⟩
    have hcatR : 2 * (F0 m pc ls (st.map (mTr bs ba))).monitorRoom + ((st0.map (mTr bs ba)).map fun v => v.category).sum ≤ 8 := lv_room (by rw [mCat_tr]; exact hcat)
    have hroom : cells + (mNx μ1 - mNx μ0) ≤ R.cells ∧ slots + (mSl μ1 - mSl μ0) ≤ R.slots := ⟨by omega, by omega⟩
    have hpreS : PreS s H (mPcD bs ba D cy scr as μ0) (as.map (mTr bs ba)) := ⟨mPc_blind, fun U hU hWm => ⟨rfl, by rw [hU]; exact hW, mKn_warm hWm hK⟩⟩
    have hini := hts _ hM.2.1
    have hdd : (rY (G z)).cls ≠ "java/lang/invoke/MethodHandle" ∧ (rY (G z)).cls ≠ "java/lang/invoke/VarHandle" ∧ (parseMethodDescriptor (rY (G z)).desc).map (fun d => d.parameters.length) = some n := ⟨hM.2.2.2.2.2.2.2.1, hM.2.2.2.2.2.2.2.2.1, by rw [← hn]; exact hM.2.2.2.2.2.2.2.2.2.1⟩
    have fin : va_Run p l e R s m args below meth c H locs cells slots (mNx μ1 - mNx μ0) (mSl μ1 - mSl μ0) (F0 m pc ls (st.map (mTr bs ba))) (st0.map (mTr bs ba)) (mQcD bs ba D cy scr v μ1 (as.map (mTr bs ba)).toArray) (fun q => ba ≤ q) := by
      rcases hkind with ⟨rfl, hk0, hst, hlen⟩ | ⟨hk12, a, As, rfl, hst, hlen, htag⟩
      · have hstk : (F0 m pc ls (st.map (mTr bs ba))).stack = (as.map (mTr bs ba)).reverse ++ st0.map (mTr bs ba) := by
          show st.map (mTr bs ba) = _
          rw [hst, List.map_append, List.map_reverse]
        by_cases hf0 : f = 0
        · simp only [mLk, if_neg hf33, if_pos hf0, decide_eq_true_eq] at hlk
          exact va_runS (n := n) ⟨hx, hb, hml, hown, hts⟩ hmet ⟨callB_of n hts (mWs_good hOK hz) rfl rfl rfl hini (hts _ (mGd_in hlk rfl)) hdd hR, hts _ (hM.2.2.1 hk0)⟩ hpreS rfl (by rw [List.length_map]; exact hlen) hL.2.1 hstk hcatR hd hroom
        · simp only [mLk, if_neg hf33, if_neg hf0, decide_eq_true_eq] at hlk
          exact va_runSN (n := n) ⟨hx, hb, hml, hown, hts⟩ hmet ⟨va_cnB n hts (mWs_good hOK hz) rfl rfl rfl (hK.2.1 _ _ _ (mWd_in hlk)) hini hdd hR, hts _ (hM.2.2.1 hk0), trivial⟩ hpreS rfl (by rw [List.length_map]; exact hlen) hL.2.1 hstk hcatR hd hroom
      · have hkn : ¬ rK (G z) = 0 := by rcases hk12 with ⟨-, h⟩ | ⟨-, h⟩ <;> omega
        have hO := hM.2.2.2.2.2.2.2.2.2.2.2 hkn
        have hs : mS μ0 a = (rO (G z), (mS μ0 a).2) := Prod.ext htag rfl
        obtain ⟨g1, g2, g3⟩ := hW.2.2.2.1 a _ _ hs (by omega)
        obtain ⟨-, cell, q1, q2, q3, q4⟩ := g3.1 hO
        have hstk : (F0 m pc ls (st.map (mTr bs ba))).stack = (As.map (mTr bs ba)).reverse ++ .ref (mAd bs ba a) :: st0.map (mTr bs ba) := by
          show st.map (mTr bs ba) = _
          rw [hst, List.map_append, List.map_reverse, List.map_cons, mTr_ref g1]
        have hasm : (Value.ref a :: As).map (mTr bs ba) = .ref (mAd bs ba a) :: As.map (mTr bs ba) := by rw [List.map_cons, mTr_ref g1]
        have hpreV : PreV s H (rY (G z)).cls (mAd bs ba a) (mPcD bs ba D cy scr (.ref a :: As) μ0) (As.map (mTr bs ba)) := by
          refine ⟨mPc_blind, ⟨cell, q1, by rw [q3]; rfl, by rw [hM.2.2.2.2.2.1, q2]; exact (hK.1.1 _ _ (mCl_at hO)).2.1⟩, fun U hU hWm => ?_⟩
          have := hpreS.2 U hU hWm
          rw [hasm] at this
          exact this
        rw [hasm]
        rw [hasm] at hpreS
        rcases hk12 with ⟨rfl, hk1⟩ | ⟨rfl, hk2⟩
        · by_cases hf0 : f = 0
          · simp only [mLk, if_pos hf0, decide_eq_true_eq] at hlk
            exact va_runV (n := n) ⟨hx, hb, hml, hown, hts⟩ hmet ⟨callB_of n hts (mWs_good hOK hz) rfl rfl rfl hini (hts _ (mGd_in hlk rfl)) hdd hR, hts _ (hM.2.2.2.1 hkn), hts _ (hM.2.2.2.2.1 hk1)⟩ hpreV rfl (by rw [List.length_map]; exact hlen) hL.2.1 hstk hcatR hd hroom
          · simp only [mLk, if_neg hf0, decide_eq_true_eq] at hlk
            exact va_runVN (n := n) ⟨hx, hb, hml, hown, hts⟩ hmet ⟨va_cnB n hts (mWs_good hOK hz) rfl rfl rfl (hK.2.1 _ _ _ (mWd_in hlk)) hini hdd hR, hts _ (hM.2.2.2.1 hkn), hts _ (hM.2.2.2.2.1 hk1)⟩ hpreV rfl (by rw [List.length_map]; exact hlen) hL.2.1 hstk hcatR hd hroom
        · obtain ⟨hnm, hrt⟩ := hM.2.2.2.2.2.2.2.2.2.2.1 hk2
          by_cases hf0 : f = 0
          · simp only [mLk, if_neg hf2, if_pos hf0, decide_eq_true_eq] at hlk
            exact va_runI (n := n) ⟨hx, hb, hml, hown, hts⟩ hmet ⟨callB_of n hts (mWs_good hOK hz) (by rw [mWs, hrt]) rfl rfl hini (hts _ (mGd_in hlk rfl)) hdd hR, hnm, hts _ (hM.2.2.2.1 hkn)⟩ hpreS rfl (by rw [List.length_map]; exact hlen) hL.2.1 hstk hcatR hd hroom
          · simp only [mLk, if_neg hf2, if_neg hf0, decide_eq_true_eq] at hlk
            exact va_runIN (n := n) ⟨hx, hb, hml, hown, hts⟩ hmet ⟨va_cnB n hts (mWs_good hOK hz) (by rw [mWs, hrt]) rfl rfl (hK.2.1 _ _ _ (mWd_in hlk)) hini hdd hR, hnm, hts _ (hM.2.2.2.1 hkn)⟩ hpreS rfl (by rw [List.length_map]; exact hlen) hL.2.1 hstk hcatR hd hroom
    refine mCallK fin hlo (fun H1 locs1 hW1 hlo2 => ?_)
    have h8 := Kw p e R s m args below meth c H1 locs1 (cells + (mNx μ1 - mNx μ0)) (slots + (mSl μ1 - mSl μ0)) Q ls hC hW1 hL hlo2 (by omega) (by omega) (fun H2 locs2 ls2 en2 hen2 hret hW2 hlo3 => by
      have h9 := E H2 locs2 ls2 en2 hen2 hret hW2 hlo3
      rw [show cells + (mNx μ1 - mNx μ0) + (mNx r.2 - mNx μ1) = cells + (mNx r.2 - mNx μ0) by omega, show slots + (mSl μ1 - mSl μ0) + (mSl r.2 - mSl μ1) = slots + (mSl r.2 - mSl μ0) by omega]
      exact h9)
    rw [hnext] at h8
    have e9 : (v.toList ++ st0).map (mTr bs ba) = (v.map (mTr bs ba)).toList ++ st0.map (mTr bs ba) := by cases v <;> rfl
    rw [e9] at h8
    exact h8
/-- SOUNDNESS: what the mini machine comes to, the machine comes to -/
theorem mSound (hOK : mOK G NM) {c : mCf} {r : Option Value × mM} (h : mGo G c r) : mSnd G l bs ba D cy scr c r :=
  h (mSnd G l bs ba D cy scr) (fun _ _ _ h1 h2 => mSnd_step hOK h1 h2) (fun _ _ _ _ _ _ _ _ _ _ _ h1 h2 h3 => mSnd_call hOK h1 h2 h3) (fun _ _ h1 => mSnd_ret h1)
end MS
