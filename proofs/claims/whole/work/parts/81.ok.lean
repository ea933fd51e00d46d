/-! the program is checked -/
theorem m_grp {f : Nat → Bool} {a n : Nat} (h : (List.range' a n).all f = true) {y : Nat} (h1 : a ≤ y) (h2 : y < a + n) : f y = true := List.all_eq_true.mp h y (List.mem_range'_1.mpr ⟨h1, h2⟩)
theorem m_chunks {f : mIns → Bool} {l : List mIns} {n : Nat} (h : ∀ k, k < n → ((l.drop (50 * k)).take 50).all f = true) (hl : l.length ≤ 50 * n) : l.all f = true := by
  rw [List.all_eq_true]
  intro e he
  obtain ⟨i, hi⟩ := List.getElem?_of_mem he
  have hlt : i < l.length := (List.getElem?_eq_some_iff.mp hi).1
  refine List.all_eq_true.mp (h (i / 50) (by omega)) e (List.mem_of_getElem? (i := i % 50) ?_)
  rw [List.getElem?_take, if_pos (by omega), List.getElem?_drop]
  rw [show 50 * (i / 50) + i % 50 = i by omega]
  exact hi
theorem mSq_all : (List.range' 0 243).all (fun y => mSeq (rC (mG y))) = true := by decide +kernel
def mHd0 : List mIns → Bool
  | [] => true
  | en :: _ => en.1 == 0
theorem mHd_all : (List.range' 0 243).all (fun y => mHd0 (rC (mG y))) = true := by decide +kernel
theorem mOb_1 : mWd (1, 18) = some (.instanceMethod Lib.objectInit) := by decide +kernel
theorem mOb_2 : mWd (1, 19) = some (.code Lib.objectInit ⟨#[0xb1]⟩ 1 none) := by decide +kernel
theorem mMw : ∀ w ∈ mMathW, w ∈ mGd := by
  intro w hw
  simp only [mMathW, List.mem_cons, List.not_mem_nil, or_false] at hw
  rcases hw with rfl | rfl | rfl | rfl | rfl
  · exact mGd_in (pl := (3, 7)) (by decide +kernel) rfl
  · exact mGd_in (pl := (4, 59)) (by decide +kernel) rfl
  · exact mGd_in (pl := (1, 11)) (by decide +kernel) rfl
  · exact mGd_in (pl := (3, 8)) (by decide +kernel) rfl
  · exact mGd_in (pl := (4, 60)) (by decide +kernel) rfl
theorem mG_out {y : Nat} (h : ¬ y < 243) : rC (mG y) = [] := by
  have e : mRecs[y]? = none := List.getElem?_eq_none_iff.mpr (by show mRecs.length ≤ y; have : mRecs.length = 243 := by decide +kernel
                                                                 omega)
  unfold mG
  rw [List.getD_eq_getElem?_getD, e]
  rfl
theorem mCk_all {y : Nat} (hy : y < 243) : (rC (mG y)).all (mChk mG mNM y) = true := by
  by_cases h0 : y < 10
  · exact m_grp mChkG0 (by omega) (by omega)
  by_cases h1 : y < 25
  · exact m_grp mChkG1 (by omega) (by omega)
  by_cases h2 : y < 39
  · exact m_grp mChkG2 (by omega) (by omega)
  by_cases h3 : y < 53
  · exact m_grp mChkG3 (by omega) (by omega)
  by_cases h4 : y < 69
  · exact m_grp mChkG4 (by omega) (by omega)
  by_cases h5 : y < 87
  · exact m_grp mChkG5 (by omega) (by omega)
  by_cases h6 : y < 100
  · exact m_grp mChkG6 (by omega) (by omega)
  by_cases h7 : y < 112
  · exact m_grp mChkG7 (by omega) (by omega)
  by_cases h8 : y < 122
  · exact m_grp mChkG8 (by omega) (by omega)
  by_cases h9 : y < 133
  · exact m_grp mChkG9 (by omega) (by omega)
  by_cases h10 : y < 159
  · exact m_grp mChkG10 (by omega) (by omega)
  by_cases h11 : y < 173
  · exact m_grp mChkG11 (by omega) (by omega)
  by_cases h12 : y < 182
  · exact m_grp mChkG12 (by omega) (by omega)
  by_cases h13 : y < 194
  · exact m_grp mChkG13 (by omega) (by omega)
  by_cases h14 : y < 202
  · exact m_grp mChkG14 (by omega) (by omega)
  by_cases h15 : y < 211
  · exact m_grp mChkG15 (by omega) (by omega)
  by_cases h16 : y < 217
  · exact m_grp mChkG16 (by omega) (by omega)
  by_cases h17 : y < 225
  · exact m_grp mChkG17 (by omega) (by omega)
  by_cases h18 : y < 233
  · exact m_grp mChkG18 (by omega) (by omega)
  by_cases h19 : y < 242
  · exact m_grp mChkG19 (by omega) (by omega)
  have hy2 : y = 242 := by omega
  subst hy2
  refine m_chunks (n := 15) (fun k hk => ?_) (by decide +kernel)
  rcases (show k = 0 ∨ k = 1 ∨ k = 2 ∨ k = 3 ∨ k = 4 ∨ k = 5 ∨ k = 6 ∨ k = 7 ∨ k = 8 ∨ k = 9 ∨ k = 10 ∨ k = 11 ∨ k = 12 ∨ k = 13 ∨ k = 14 by omega) with rfl | rfl | rfl | rfl | rfl | rfl | rfl | rfl | rfl | rfl | rfl | rfl | rfl | rfl | rfl
  · exact mChkL0
  · exact mChkL1
  · exact mChkL2
  · exact mChkL3
  · exact mChkL4
  · exact mChkL5
  · exact mChkL6
  · exact mChkL7
  · exact mChkL8
  · exact mChkL9
  · exact mChkL10
  · exact mChkL11
  · exact mChkL12
  · exact mChkL13
  · exact mChkL14
theorem mOK_all : mOK mG mNM := by
  refine ⟨fun y en hen => ?_, fun y => ?_, fun z hz => ?_, mGd_in mOb_1 rfl, mGd_in mOb_2 rfl, fun y en r he => ?_, mMw⟩
  · by_cases hy : y < 243
    · exact List.all_eq_true.mp (mCk_all hy) en hen
    · rw [mG_out hy] at hen; cases hen
  · by_cases hy : y < 243
    · exact m_grp mSq_all (by omega) (by omega)
    · rw [mG_out hy]; rfl
  · by_cases h0 : z < 8
    · exact m_grp mCm0 (by omega) (by omega)
    by_cases h1 : z < 16
    · exact m_grp mCm1 (by omega) (by omega)
    by_cases h2 : z < 24
    · exact m_grp mCm2 (by omega) (by omega)
    by_cases h3 : z < 32
    · exact m_grp mCm3 (by omega) (by omega)
    by_cases h4 : z < 40
    · exact m_grp mCm4 (by omega) (by omega)
    by_cases h5 : z < 48
    · exact m_grp mCm5 (by omega) (by omega)
    by_cases h6 : z < 56
    · exact m_grp mCm6 (by omega) (by omega)
    by_cases h7 : z < 64
    · exact m_grp mCm7 (by omega) (by omega)
    by_cases h8 : z < 72
    · exact m_grp mCm8 (by omega) (by omega)
    by_cases h9 : z < 80
    · exact m_grp mCm9 (by omega) (by omega)
    by_cases h10 : z < 88
    · exact m_grp mCm10 (by omega) (by omega)
    by_cases h11 : z < 96
    · exact m_grp mCm11 (by omega) (by omega)
    by_cases h12 : z < 104
    · exact m_grp mCm12 (by omega) (by omega)
    by_cases h13 : z < 112
    · exact m_grp mCm13 (by omega) (by omega)
    by_cases h14 : z < 120
    · exact m_grp mCm14 (by omega) (by omega)
    by_cases h15 : z < 128
    · exact m_grp mCm15 (by omega) (by omega)
    by_cases h16 : z < 136
    · exact m_grp mCm16 (by omega) (by omega)
    by_cases h17 : z < 144
    · exact m_grp mCm17 (by omega) (by omega)
    by_cases h18 : z < 152
    · exact m_grp mCm18 (by omega) (by omega)
    by_cases h19 : z < 160
    · exact m_grp mCm19 (by omega) (by omega)
    by_cases h20 : z < 168
    · exact m_grp mCm20 (by omega) (by omega)
    by_cases h21 : z < 176
    · exact m_grp mCm21 (by omega) (by omega)
    by_cases h22 : z < 184
    · exact m_grp mCm22 (by omega) (by omega)
    by_cases h23 : z < 192
    · exact m_grp mCm23 (by omega) (by omega)
    by_cases h24 : z < 200
    · exact m_grp mCm24 (by omega) (by omega)
    by_cases h25 : z < 208
    · exact m_grp mCm25 (by omega) (by omega)
    by_cases h26 : z < 216
    · exact m_grp mCm26 (by omega) (by omega)
    by_cases h27 : z < 224
    · exact m_grp mCm27 (by omega) (by omega)
    by_cases h28 : z < 232
    · exact m_grp mCm28 (by omega) (by omega)
    by_cases h29 : z < 240
    · exact m_grp mCm29 (by omega) (by omega)
    by_cases h30 : z < 242
    · exact m_grp mCm30 (by omega) (by omega)
    exact absurd hz (by omega)
  · by_cases hy : y < 243
    · have := m_grp mHd_all (y := y) (by omega) (by omega)
      rw [he] at this
      simpa [mHd0] using this
    · rw [mG_out hy] at he; cases he
