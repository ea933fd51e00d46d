/-! the code is the class files' (checked by the kernel) -/
theorem mChkL4 : (((rC (mG 242)).drop 200).take 50).all (mChk mG mNM 242) = true := by decide +kernel
theorem mChkL5 : (((rC (mG 242)).drop 250).take 50).all (mChk mG mNM 242) = true := by decide +kernel
theorem mChkL6 : (((rC (mG 242)).drop 300).take 50).all (mChk mG mNM 242) = true := by decide +kernel
theorem mChkL7 : (((rC (mG 242)).drop 350).take 50).all (mChk mG mNM 242) = true := by decide +kernel
theorem mChkL8 : (((rC (mG 242)).drop 400).take 50).all (mChk mG mNM 242) = true := by decide +kernel
theorem mChkL9 : (((rC (mG 242)).drop 450).take 50).all (mChk mG mNM 242) = true := by decide +kernel
