/-! the code is the class files' (checked by the kernel) -/
theorem mChkG12 : (List.range' 173 9).all (fun y => (rC (mG y)).all (mChk mG mNM y)) = true := by decide +kernel
theorem mChkG13 : (List.range' 182 12).all (fun y => (rC (mG y)).all (mChk mG mNM y)) = true := by decide +kernel
theorem mChkG14 : (List.range' 194 8).all (fun y => (rC (mG y)).all (mChk mG mNM y)) = true := by decide +kernel
theorem mChkG15 : (List.range' 202 9).all (fun y => (rC (mG y)).all (mChk mG mNM y)) = true := by decide +kernel
theorem mChkG16 : (List.range' 211 6).all (fun y => (rC (mG y)).all (mChk mG mNM y)) = true := by decide +kernel
theorem mChkG17 : (List.range' 217 8).all (fun y => (rC (mG y)).all (mChk mG mNM y)) = true := by decide +kernel
