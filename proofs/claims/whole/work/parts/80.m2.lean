/-! the methods' words are in the tables (checked by the kernel) -/
theorem mCm22 : (List.range' 176 8).all (mChkM mG) = true := by decide +kernel
theorem mCm23 : (List.range' 184 8).all (mChkM mG) = true := by decide +kernel
theorem mCm24 : (List.range' 192 8).all (mChkM mG) = true := by decide +kernel
theorem mCm25 : (List.range' 200 8).all (mChkM mG) = true := by decide +kernel
theorem mCm26 : (List.range' 208 8).all (mChkM mG) = true := by decide +kernel
theorem mCm27 : (List.range' 216 8).all (mChkM mG) = true := by decide +kernel
theorem mCm28 : (List.range' 224 8).all (mChkM mG) = true := by decide +kernel
theorem mCm29 : (List.range' 232 8).all (mChkM mG) = true := by decide +kernel
theorem mCm30 : (List.range' 240 2).all (mChkM mG) = true := by decide +kernel
