/-! what is left: the law's model answers 1 on every script -/
theorem law_ok (L : Nat) (hL : L ≤ 2560) (xs : Nat → Int32) : ∃ μ', s242 (mStart L xs) 1 = some (1, μ') ∧ mNx μ' ≤ 600000 ∧ mSl μ' ≤ 7302250 := sorry
