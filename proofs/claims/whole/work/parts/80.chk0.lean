/-! the code is the class files' (checked by the kernel) -/
theorem mChkG0 : (List.range' 0 10).all (fun y => (rC (mG y)).all (mChk mG mNM y)) = true := by decide +kernel
theorem mChkG1 : (List.range' 10 15).all (fun y => (rC (mG y)).all (mChk mG mNM y)) = true := by decide +kernel
theorem mChkG2 : (List.range' 25 14).all (fun y => (rC (mG y)).all (mChk mG mNM y)) = true := by decide +kernel
theorem mChkG3 : (List.range' 39 14).all (fun y => (rC (mG y)).all (mChk mG mNM y)) = true := by decide +kernel
theorem mChkG4 : (List.range' 53 16).all (fun y => (rC (mG y)).all (mChk mG mNM y)) = true := by decide +kernel
theorem mChkG5 : (List.range' 69 18).all (fun y => (rC (mG y)).all (mChk mG mNM y)) = true := by decide +kernel
