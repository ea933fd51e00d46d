/-! the code is the class files' (checked by the kernel) -/
theorem mChkG6 : (List.range' 87 13).all (fun y => (rC (mG y)).all (mChk mG mNM y)) = true := by decide +kernel
theorem mChkG7 : (List.range' 100 12).all (fun y => (rC (mG y)).all (mChk mG mNM y)) = true := by decide +kernel
theorem mChkG8 : (List.range' 112 10).all (fun y => (rC (mG y)).all (mChk mG mNM y)) = true := by decide +kernel
theorem mChkG9 : (List.range' 122 11).all (fun y => (rC (mG y)).all (mChk mG mNM y)) = true := by decide +kernel
theorem mChkG10 : (List.range' 133 26).all (fun y => (rC (mG y)).all (mChk mG mNM y)) = true := by decide +kernel
theorem mChkG11 : (List.range' 159 14).all (fun y => (rC (mG y)).all (mChk mG mNM y)) = true := by decide +kernel
