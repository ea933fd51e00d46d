/-! the tick: loads -/
section TR
variable {μ ν ν1 : mM} {A B : Ab} {r t d n m k a b v c e h : Nat}
/-- the new load of a link -/
def ldN (x : UInt32) (s c : Nat) : UInt32 := FP.fadd (FP.fmul x (UInt32.ofNat 1063256064)) (FP.fmul (FP.fdiv (FP.i2f (nI s)) (FP.i2f (nI c))) (UInt32.ofNat 1040187392))
theorem ld_q : ∀ c : Fin 13, ∀ s : Fin 13, 1 ≤ c.val → s.val ≤ c.val → (FP.fdiv (FP.i2f (nI s.val)) (FP.i2f (nI c.val))).toNat ≤ 1065353216 := by decide +kernel
theorem ld_1 : fV 1065353216 * fV (UInt32.ofNat 1063256064).toNat ≤ fV 1063256064 * 2 ^ 149 ∧ fV 1065353216 * fV (UInt32.ofNat 1040187392).toNat ≤ fV 1040187392 * 2 ^ 149 ∧ fV 1063256064 + fV 1040187392 ≤ fV 1065353216 ∧ (UInt32.ofNat 1063256064).toNat < 2139095040 ∧ (UInt32.ofNat 1040187392).toNat < 2139095040 := by decide +kernel
theorem ld_ok {x : UInt32} {s c : Nat} (hx : x.toNat ≤ 1065353216) (h1 : 1 ≤ c) (h2 : c ≤ 12) (hs : s ≤ c) : (FP.fdiv (FP.i2f (nI s)) (FP.i2f (nI c))).toNat ≤ 1065353216 ∧ (FP.fmul x (UInt32.ofNat 1063256064)).toNat ≤ 1063256064 ∧ (FP.fmul (FP.fdiv (FP.i2f (nI s)) (FP.i2f (nI c))) (UInt32.ofNat 1040187392)).toNat ≤ 1040187392 ∧ (ldN x s c).toNat ≤ 1065353216 := by
  obtain ⟨a1, a2, a3, a4, a5⟩ := ld_1
  have q := ld_q ⟨c, by omega⟩ ⟨s, by omega⟩ h1 hs
  simp only at q
  have m1 : (FP.fmul x (UInt32.ofNat 1063256064)).toNat ≤ 1063256064 := fmul_le (by omega) a4 (by omega) (Nat.le_trans (Nat.mul_le_mul (fV_mono hx) (Nat.le_refl _)) a1)
  have m2 : (FP.fmul (FP.fdiv (FP.i2f (nI s)) (FP.i2f (nI c))) (UInt32.ofNat 1040187392)).toNat ≤ 1040187392 := fmul_le (by omega) a5 (by omega) (Nat.le_trans (Nat.mul_le_mul (fV_mono q) (Nat.le_refl _)) a2)
  refine ⟨q, m1, m2, ?_⟩
  unfold ldN
  exact fadd_le (by omega) (by omega) (by omega) (Nat.le_trans (Nat.add_le_add (fV_mono m1) (fV_mono m2)) a3)
end TR
