/-! the methods' words are in the tables (checked by the kernel) -/
theorem mCm11 : (List.range' 88 8).all (mChkM mG) = true := by decide +kernel
theorem mCm12 : (List.range' 96 8).all (mChkM mG) = true := by decide +kernel
theorem mCm13 : (List.range' 104 8).all (mChkM mG) = true := by decide +kernel
theorem mCm14 : (List.range' 112 8).all (mChkM mG) = true := by decide +kernel
theorem mCm15 : (List.range' 120 8).all (mChkM mG) = true := by decide +kernel
theorem mCm16 : (List.range' 128 8).all (mChkM mG) = true := by decide +kernel
theorem mCm17 : (List.range' 136 8).all (mChkM mG) = true := by decide +kernel
theorem mCm18 : (List.range' 144 8).all (mChkM mG) = true := by decide +kernel
theorem mCm19 : (List.range' 152 8).all (mChkM mG) = true := by decide +kernel
theorem mCm20 : (List.range' 160 8).all (mChkM mG) = true := by decide +kernel
theorem mCm21 : (List.range' 168 8).all (mChkM mG) = true := by decide +kernel
