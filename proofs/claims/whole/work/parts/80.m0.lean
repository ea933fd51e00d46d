/-! the methods' words are in the tables (checked by the kernel) -/
theorem mCm0 : (List.range' 0 8).all (mChkM mG) = true := by decide +kernel
theorem mCm1 : (List.range' 8 8).all (mChkM mG) = true := by decide +kernel
theorem mCm2 : (List.range' 16 8).all (mChkM mG) = true := by decide +kernel
theorem mCm3 : (List.range' 24 8).all (mChkM mG) = true := by decide +kernel
theorem mCm4 : (List.range' 32 8).all (mChkM mG) = true := by decide +kernel
theorem mCm5 : (List.range' 40 8).all (mChkM mG) = true := by decide +kernel
theorem mCm6 : (List.range' 48 8).all (mChkM mG) = true := by decide +kernel
theorem mCm7 : (List.range' 56 8).all (mChkM mG) = true := by decide +kernel
theorem mCm8 : (List.range' 64 8).all (mChkM mG) = true := by decide +kernel
theorem mCm9 : (List.range' 72 8).all (mChkM mG) = true := by decide +kernel
theorem mCm10 : (List.range' 80 8).all (mChkM mG) = true := by decide +kernel
