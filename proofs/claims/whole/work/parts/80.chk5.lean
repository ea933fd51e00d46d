/-! the code is the class files' (checked by the kernel) -/
theorem mChkL10 : (((rC (mG 242)).drop 500).take 50).all (mChk mG mNM 242) = true := by decide +kernel
theorem mChkL11 : (((rC (mG 242)).drop 550).take 50).all (mChk mG mNM 242) = true := by decide +kernel
theorem mChkL12 : (((rC (mG 242)).drop 600).take 50).all (mChk mG mNM 242) = true := by decide +kernel
theorem mChkL13 : (((rC (mG 242)).drop 650).take 50).all (mChk mG mNM 242) = true := by decide +kernel
theorem mChkL14 : (((rC (mG 242)).drop 700).take 50).all (mChk mG mNM 242) = true := by decide +kernel
