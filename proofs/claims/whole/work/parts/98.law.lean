/-! the law's model answers 1 on every script -/
theorem law_ok (L : Nat) (hL : L ≤ 2560) (xs : Nat → Int32) : ∃ μ', s242 (mStart L xs) 1 = some (1, μ') ∧ mNx μ' ≤ 581 ∧ mSl μ' ≤ 60000 := law_ok0 hL
/-- the statement's room, whatever its numbers are, holds this -/
theorem room_c : 581 ≤ room_1.cells := Nat.le_of_ble_eq_true rfl
theorem room_s : 60000 ≤ room_1.slots := Nat.le_of_ble_eq_true rfl
