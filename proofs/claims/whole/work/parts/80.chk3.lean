/-! the code is the class files' (checked by the kernel) -/
theorem mChkG18 : (List.range' 225 8).all (fun y => (rC (mG y)).all (mChk mG mNM y)) = true := by decide +kernel
theorem mChkG19 : (List.range' 233 9).all (fun y => (rC (mG y)).all (mChk mG mNM y)) = true := by decide +kernel
theorem mChkL0 : (((rC (mG 242)).drop 0).take 50).all (mChk mG mNM 242) = true := by decide +kernel
theorem mChkL1 : (((rC (mG 242)).drop 50).take 50).all (mChk mG mNM 242) = true := by decide +kernel
theorem mChkL2 : (((rC (mG 242)).drop 100).take 50).all (mChk mG mNM 242) = true := by decide +kernel
theorem mChkL3 : (((rC (mG 242)).drop 150).take 50).all (mChk mG mNM 242) = true := by decide +kernel
