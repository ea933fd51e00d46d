/-! the world of the mini machine in the heap -/
def mTabs : List (List Cond) := [k2_sels lw_privs, tables_1_1, tables_1_2, tables_1_3, tables_1_4, tables_1_5, tables_1_6]
def mWd (pl : Nat × Nat) : Option Cond := (mTabs.getD pl.1 [])[pl.2]?
theorem mWd_in {pl : Nat × Nat} {w : Cond} (h : mWd pl = some w) : w ∈ lw_tbl := by
  unfold mWd at h
  have h1 := List.mem_of_getElem? h
  have h2 : mTabs.getD pl.1 [] = [] ∨ mTabs.getD pl.1 [] ∈ mTabs := by
    rw [List.getD_eq_getElem?_getD]
    cases hq : mTabs[pl.1]? with
    | none => exact Or.inl rfl
    | some l => exact Or.inr (List.mem_of_getElem? hq)
  rcases h2 with h2 | h2
  · rw [h2] at h1; cases h1
  · have key : ∀ l ∈ mTabs, ∀ w ∈ l, w ∈ lw_tbl := by
      intro l hl w hw
      unfold lw_tbl tables_1
      simp only [mTabs, List.mem_cons, List.not_mem_nil, or_false] at hl
      simp only [List.mem_append]
      rcases hl with rfl | rfl | rfl | rfl | rfl | rfl | rfl <;> simp [hw]
    exact key _ h2 w h1
def mGd : List Cond := lw_tbl.filter goodWord
theorem mGd_in {pl : Nat × Nat} {w : Cond} (h : mWd pl = some w) (hg : goodWord w = true) : w ∈ mGd := List.mem_filter.mpr ⟨mWd_in h, hg⟩
section MW
variable (bs ba : Nat) (D : va_G) (cy : Nat → ClassId) (scr : Cell)
def mAd (a : Nat) : Nat := if a = 1 then bs else ba + (a - 2)
def mTr : Value → Value
  | .ref a => if a = 0 then .null else .ref (mAd bs ba a)
  | v => v
def mFn (μ : mM) (t a : Nat) : Nat → Value := fun k => mTr bs ba (mVl μ (mTy t k) a k)
def mCp (μ : mM) (a t n : Nat) (H : Heap) : Prop := (t < 10 → n = mN t ∧ t_OB (mAd bs ba a) (D.1 t) (mN t) (D.2 t) H (mFn bs ba μ t a)) ∧ (¬ t < 10 → H[mAd bs ba a]? = some (arrV (cy t) n (mFn bs ba μ t a)))
def mW (μ : mM) (H : Heap) : Prop := 2 ≤ mNx μ ∧ H.size = ba + (mNx μ - 2) ∧ bs < ba ∧ (∀ a t n, mS μ a = (t, n) → t < 30 → 2 ≤ a ∧ a < mNx μ ∧ mCp bs ba D cy μ a t n H) ∧ (∀ a n, mS μ a = (98, n) → a = 1 ∧ H[bs]? = some scr ∧ scr.slots.size = n ∧ ∀ j, j < n → scr.slots[j]? = some (.int (mI μ 1 j)))
abbrev mTys : List (ClassId × FieldType) := [(cy 10, .int), (cy 11, .float), (cy 12, .boolean), (cy 21, .object (mR 1)), (cy 24, .object (mR 4)), (cy 26, .object (mR 6))]
/-- what is known of the tables: classes, arrays, links of nest mates, arrays over classes, the script -/
def mKn (s : State) : Prop := va_K D mCl (mTys cy) s ∧ (∀ own i y, Cond.methodLinkNest own i y "TunnelFabric" ∈ lw_tbl → va_Nw (.methodLinkNest own i y "TunnelFabric") s) ∧ (∀ C, Cond.arrayOver (.object C) ∈ lw_tbl → va_AO C s) ∧ s.isArrayOf scr .int ∧ scr.vm ≠ .unknown
end MW
theorem mCl_at {c : Nat} (h : c < 10) : mCl[c]? = some (mR c, mTb c, mN c) := by
  unfold mCl
  rw [List.getElem?_map, List.getElem?_range h]; rfl
theorem mTr_vl_other {μ μ' : mM} {ty a k : Nat} {v : Value} (h : mSet μ ty a k v = some μ') (ty' : Nat) {a' k' : Nat} (hne : ¬ (a' = a ∧ k' = k)) : mVl μ' ty' a' k' = mVl μ ty' a' k' := by
  unfold mSet at h
  split at h
  · cases h; simp only [mVl, mI, mF, mJ, mP, mU, if_neg hne]
  · split at h
    · cases h; simp only [mVl, mI, mF, mJ, mP, mU, if_neg hne]
    · cases h
  · cases h; simp only [mVl, mI, mF, mJ, mP, mU, if_neg hne]
  · cases h; simp only [mVl, mI, mF, mJ, mP, mU, if_neg hne]
  · cases h; simp only [mVl, mI, mF, mJ, mP, mU, if_neg hne]
  · cases h
theorem mTr_vl_self {μ μ' : mM} {ty a k : Nat} {v : Value} (h : mSet μ ty a k v = some μ') : mVl μ' ty a k = v := by
  unfold mSet at h
  split at h
  · cases h; simp [mVl, mI, mF, mJ, mP, mU]
  · split at h
    · cases h; simp [mVl, mI, mF, mJ, mP, mU]
    · cases h
  · cases h; simp [mVl, mI, mF, mJ, mP, mU]
  · cases h; simp [mVl, mI, mF, mJ, mP, mU]
  · cases h; simp [mVl, mI, mF, mJ, mP, mU]
  · cases h
theorem mSet_S {μ μ' : mM} {ty a k : Nat} {v : Value} (h : mSet μ ty a k v = some μ') : mS μ' = mS μ ∧ mNx μ' = mNx μ ∧ mSl μ' = mSl μ := by
  unfold mSet at h
  split at h
  · cases h; exact ⟨rfl, rfl, rfl⟩
  · split at h
    · cases h; exact ⟨rfl, rfl, rfl⟩
    · cases h
  · cases h; exact ⟨rfl, rfl, rfl⟩
  · cases h; exact ⟨rfl, rfl, rfl⟩
  · cases h; exact ⟨rfl, rfl, rfl⟩
  · cases h
theorem mSet_I {μ μ' : mM} {ty a k : Nat} {v : Value} (h : mSet μ ty a k v = some μ') {b : Nat} (hb : b ≠ a) : mI μ' b = mI μ b := by
  funext j
  have h1 := mTr_vl_other h 0 (a' := b) (k' := j) (fun q => hb q.1)
  simp only [mVl] at h1
  exact Value.int.inj h1
theorem mFn_other {bs ba : Nat} {μ μ' : mM} {ty a k : Nat} {v : Value} (h : mSet μ ty a k v = some μ') (t : Nat) {a' : Nat} (hne : a' ≠ a) : mFn bs ba μ' t a' = mFn bs ba μ t a' := by
  funext j
  unfold mFn
  rw [mTr_vl_other h _ (fun q => hne q.1)]
theorem mFn_self {bs ba : Nat} {μ μ' : mM} {a k t : Nat} {v : Value} (h : mSet μ (mTy t k) a k v = some μ') : mFn bs ba μ' t a = updV (mFn bs ba μ t a) k (mTr bs ba v) := by
  funext j
  unfold mFn updV
  by_cases hj : j = k
  · subst hj
    rw [if_pos rfl, mTr_vl_self h]
  · rw [if_neg hj, mTr_vl_other h _ (fun q => hj q.2)]
theorem mAd_ge {bs ba a : Nat} (h : 2 ≤ a) : mAd bs ba a = ba + (a - 2) := by unfold mAd; rw [if_neg (by omega)]
theorem mAd_inj {bs ba a b : Nat} (ha : 2 ≤ a) (hb : 2 ≤ b) (h : a ≠ b) : mAd bs ba a ≠ mAd bs ba b := by rw [mAd_ge ha, mAd_ge hb]; omega
theorem mCp_kept {bs ba : Nat} {D : va_G} {cy : Nat → ClassId} {μ μ' : mM} {a t n : Nat} {H H' : Heap} (h : mCp bs ba D cy μ a t n H) (hf : mFn bs ba μ' t a = mFn bs ba μ t a) (hq : H'[mAd bs ba a]? = H[mAd bs ba a]?) : mCp bs ba D cy μ' a t n H' := by
  refine ⟨fun h1 => ?_, fun h1 => ?_⟩
  · obtain ⟨e1, e2⟩ := h.1 h1
    exact ⟨e1, by rw [hf]; exact e2.kept hq⟩
  · rw [hf, hq]; exact h.2 h1
/-- a slot of a cell is written -/
theorem mW_put {bs ba : Nat} {D : va_G} {cy : Nat → ClassId} {scr : Cell} {μ μ' : mM} {H H' : Heap} {a t n k : Nat} {v : Value} (hW : mW bs ba D cy scr μ H) (hs : mS μ a = (t, n)) (ht : t < 30) (hset : mSet μ (mTy t k) a k v = some μ') (hz : H'.size = H.size) (ho : ∀ q, q ≠ mAd bs ba a → H'[q]? = H[q]?) (hc : mCp bs ba D cy μ' a t n H') : mW bs ba D cy scr μ' H' := by
  obtain ⟨h1, h2, h3, h4, h5⟩ := hW
  obtain ⟨e1, e2, e3⟩ := mSet_S hset
  have ha := (h4 a t n hs ht).1
  refine ⟨by rw [e2]; exact h1, by rw [hz, e2]; exact h2, h3, fun a' t' n' hs' ht' => ?_, fun a' n' hs' => ?_⟩
  · rw [e1] at hs'
    obtain ⟨g1, g2, g3⟩ := h4 a' t' n' hs' ht'
    refine ⟨g1, by rw [e2]; exact g2, ?_⟩
    by_cases haa : a' = a
    · subst haa
      rw [hs] at hs'
      cases hs'
      exact hc
    · exact mCp_kept g3 (mFn_other hset t' haa) (ho _ (mAd_inj g1 ha haa))
  · rw [e1] at hs'
    obtain ⟨g1, g2, g3, g4⟩ := h5 a' n' hs'
    refine ⟨g1, ?_, g3, fun j hj => ?_⟩
    · rw [ho bs (by rw [mAd_ge ha]; omega)]; exact g2
    · rw [mSet_I hset (by omega)]; exact g4 j hj
theorem mNew_vl {μ : mM} {t n ty a k : Nat} (h : a ≠ mNx μ) : mVl (mNew μ t n) ty a k = mVl μ ty a k := by
  simp only [mVl, mI, mF, mJ, mP, mNew, mUr, if_neg h]
theorem mNew_vl0 {μ : mM} {t n ty k : Nat} : mVl (mNew μ t n) ty (mNx μ) k = (match ty with | 1 => .float 0 | 2 => .long 0 | 3 => .ref 0 | _ => .int 0) := by
  unfold mVl mNew mUr
  split <;> simp [mI, mF, mJ, mP]
theorem mFn_new {bs ba : Nat} {μ : mM} {t n t' a : Nat} (h : a ≠ mNx μ) : mFn bs ba (mNew μ t n) t' a = mFn bs ba μ t' a := by
  funext j; unfold mFn; rw [mNew_vl h]
/-- a cell is made -/
theorem mW_new {bs ba : Nat} {D : va_G} {cy : Nat → ClassId} {scr : Cell} {μ : mM} {H H' : Heap} {t n : Nat} (hW : mW bs ba D cy scr μ H) (ht : t < 30) (hz : H'.size = H.size + 1) (ho : ∀ q, q < H.size → H'[q]? = H[q]?) (hc : mCp bs ba D cy (mNew μ t n) (mNx μ) t n H') : mW bs ba D cy scr (mNew μ t n) H' := by
  obtain ⟨h1, h2, h3, h4, h5⟩ := hW
  have hS : ∀ a, a ≠ mNx μ → mS (mNew μ t n) a = mS μ a := fun a ha => by simp only [mS, mNew, mU1, if_neg ha]
  have hS0 : mS (mNew μ t n) (mNx μ) = (t, n) := by simp only [mS, mNew, mU1, if_pos]
  have hN : mNx (mNew μ t n) = mNx μ + 1 := rfl
  refine ⟨by rw [hN]; omega, by rw [hN, hz, h2]; omega, h3, fun a' t' n' hs' ht' => ?_, fun a' n' hs' => ?_⟩
  · by_cases ha : a' = mNx μ
    · subst ha
      rw [hS0] at hs'
      cases hs'
      exact ⟨h1, by rw [hN]; omega, hc⟩
    · rw [hS a' ha] at hs'
      obtain ⟨g1, g2, g3⟩ := h4 a' t' n' hs' ht'
      exact ⟨g1, by rw [hN]; omega, mCp_kept g3 (mFn_new ha) (ho _ (by rw [mAd_ge g1]; omega))⟩
  · by_cases ha : a' = mNx μ
    · subst ha
      rw [hS0] at hs'
      cases hs'
      omega
    · rw [hS a' ha] at hs'
      obtain ⟨g1, g2, g3, g4⟩ := h5 a' n' hs'
      refine ⟨g1, ?_, g3, fun j hj => ?_⟩
      · rw [ho bs (by omega)]; exact g2
      · have : mI (mNew μ t n) 1 = mI μ 1 := by
          funext j
          simp only [mI, mNew, mUr]
          rw [if_neg (by omega)]
        rw [this]; exact g4 j hj
