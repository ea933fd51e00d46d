/-! digest: a long kept aside changes no reader -/
section DJ
variable {μ : mM} {g : Int64} {x y z w : Int32}
theorem q188 : s188 (mUJ μ 200 20 g) 200 x y = s188 μ 200 x y := rfl
theorem q190 : s190 (mUJ μ 200 20 g) 200 x y = s190 μ 200 x y := rfl
theorem q192 : s192 (mUJ μ 200 20 g) 200 x y = s192 μ 200 x y := rfl
theorem q193 : s193 (mUJ μ 200 20 g) 200 x y = s193 μ 200 x y := rfl
theorem q195 : s195 (mUJ μ 200 20 g) 200 x y = s195 μ 200 x y := rfl
theorem q205 : s205 (mUJ μ 200 20 g) 200 x y = s205 μ 200 x y := rfl
theorem q206 : s206 (mUJ μ 200 20 g) 200 x y z w = s206 μ 200 x y z w := rfl
theorem q207 : s207 (mUJ μ 200 20 g) 200 x y z = s207 μ 200 x y z := rfl
theorem q235 : s235 (mUJ μ 200 20 g) 200 x = s235 μ 200 x := rfl
end DJ
