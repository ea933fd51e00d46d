/-! floats from 0 on: what rounding can't pass -/
section FLT
/-- significand and exponent (from the least one on) of a finite float from 0 on, by its bits -/
def fC (n : Nat) : Nat := if n / 8388608 = 0 then n % 8388608 else 8388608 + n % 8388608
def fE (n : Nat) : Nat := n / 8388608 - 1
/-- its value, in units of the least float -/
def fV (n : Nat) : Nat := fC n * 2 ^ fE n
theorem dec_pos {n : Nat} (h : n < 2139095040) : FP.Core.decode FP.Core.b32 n = .fin false (fC n) (-149 + (fE n : Int)) := by
  have e1 : FP.Core.fieldE FP.Core.b32 n = n / 8388608 := by
    show n / 8388608 % 256 = _
    omega
  have e2 : FP.Core.fieldT FP.Core.b32 n = n % 8388608 := rfl
  have e3 : FP.Core.fieldS FP.Core.b32 n = false := by
    show (n / 8388608 / 256 % 2 == 1) = false
    have : n / 8388608 / 256 = 0 := by omega
    rw [this]; rfl
  unfold FP.Core.decode
  rw [e1, e2, e3]
  rw [if_neg (show ¬ n / 8388608 = FP.Core.b32.exps - 1 by show ¬ n / 8388608 = 255; omega)]
  unfold fC fE
  by_cases h0 : n / 8388608 = 0
  · rw [if_pos h0, if_pos h0, h0]; rfl
  · rw [if_neg h0, if_neg h0]
    show FP.Core.Datum.fin false (8388608 + n % 8388608) (-149 + (((n / 8388608 : Nat) : Int) - 1)) = _
    congr 2
    omega
theorem dec_neg {n : Nat} (h : n < 2139095040) : FP.Core.decode FP.Core.b32 (2147483648 + n) = .fin true (fC n) (-149 + (fE n : Int)) := by
  have e0 : (2147483648 + n) / 8388608 = 256 + n / 8388608 := by omega
  have e1 : FP.Core.fieldE FP.Core.b32 (2147483648 + n) = n / 8388608 := by
    show (2147483648 + n) / 8388608 % 256 = _
    omega
  have e2 : FP.Core.fieldT FP.Core.b32 (2147483648 + n) = n % 8388608 := by
    show (2147483648 + n) % 8388608 = _
    omega
  have e3 : FP.Core.fieldS FP.Core.b32 (2147483648 + n) = true := by
    show ((2147483648 + n) / 8388608 / 256 % 2 == 1) = true
    have : (2147483648 + n) / 8388608 / 256 = 1 := by omega
    rw [this]; rfl
  unfold FP.Core.decode
  rw [e1, e2, e3]
  rw [if_neg (show ¬ n / 8388608 = FP.Core.b32.exps - 1 by show ¬ n / 8388608 = 255; omega)]
  unfold fC fE
  by_cases h0 : n / 8388608 = 0
  · rw [if_pos h0, if_pos h0, h0]; rfl
  · rw [if_neg h0, if_neg h0]
    show FP.Core.Datum.fin true (8388608 + n % 8388608) (-149 + (((n / 8388608 : Nat) : Int) - 1)) = _
    congr 2
    omega
theorem fC_lt (n : Nat) : fC n < 16777216 := by unfold fC; split <;> omega
/-- the bits out of significand and exponent -/
theorem fB (n : Nat) : n = fE n * 8388608 + fC n ∧ (fE n = 0 ∨ 8388608 ≤ fC n) := by
  unfold fE fC
  split <;> omega
theorem pw_split {x y a b : Nat} : x * 2 ^ (a - b) ≤ y * 2 ^ (b - a) ↔ x * 2 ^ a ≤ y * 2 ^ b := by
  rcases Nat.le_total a b with h | h
  · obtain ⟨k, rfl⟩ := Nat.exists_eq_add_of_le h
    rw [show a - (a + k) = 0 by omega, show a + k - a = k by omega, Nat.pow_add]
    have hp : 0 < 2 ^ a := Nat.two_pow_pos a
    have e : y * (2 ^ a * 2 ^ k) = (y * 2 ^ k) * 2 ^ a := by rw [Nat.mul_comm (2 ^ a), Nat.mul_assoc]
    rw [e]
    constructor
    · intro q; exact Nat.mul_le_mul_right _ (by simpa using q)
    · intro q; have := Nat.le_of_mul_le_mul_right q hp; simpa using this
  · obtain ⟨k, rfl⟩ := Nat.exists_eq_add_of_le h
    rw [show b - (b + k) = 0 by omega, show b + k - b = k by omega, Nat.pow_add]
    have hp : 0 < 2 ^ b := Nat.two_pow_pos b
    have e : x * (2 ^ b * 2 ^ k) = (x * 2 ^ k) * 2 ^ b := by rw [Nat.mul_comm (2 ^ b), Nat.mul_assoc]
    rw [e]
    constructor
    · intro q; exact Nat.mul_le_mul_right _ (by simpa using q)
    · intro q; have := Nat.le_of_mul_le_mul_right q hp; simpa using this
theorem near_le {N D k : Nat} (h : N ≤ k * D) (hD : 0 < D) : FP.Core.nearest N D ≤ k := by
  have h1 : N / D ≤ k := Nat.div_le_of_le_mul (by rw [Nat.mul_comm]; exact h)
  have h2 := Nat.div_add_mod N D
  unfold FP.Core.nearest
  by_cases e : N / D = k
  · have : N % D = 0 := by
      rw [e, Nat.mul_comm] at h2; omega
    rw [this, if_pos (by omega)]; exact h1
  · split
    · exact h1
    · split
      · omega
      · have := Nat.mod_lt (N / D) (show 2 > 0 by omega); omega
theorem near_ge {N D k : Nat} (h : k * D ≤ N) (hD : 0 < D) : k ≤ FP.Core.nearest N D := by
  have h1 : k ≤ N / D := (Nat.le_div_iff_mul_le hD).mpr h
  unfold FP.Core.nearest
  split
  · exact h1
  · split <;> omega
/-- the leading digit -/
theorem lead_le {num den : Nat} (h1 : 0 < num) (h2 : 0 < den) : den * 2 ^ (FP.Core.leading num den).toNat ≤ num * 2 ^ (-(FP.Core.leading num den)).toNat := by
  unfold FP.Core.leading
  simp only
  split
  · next h => exact h
  · have a1 : 2 ^ num.log2 ≤ num := Nat.log2_self_le (by omega)
    have a2 : den < 2 ^ (den.log2 + 1) := Nat.lt_log2_self
    generalize num.log2 = a at *
    generalize den.log2 = b at *
    have e1 : (((a : Int) - (b : Int) - 1)).toNat = a - (b + 1) := by omega
    have e2 : (-((a : Int) - (b : Int) - 1)).toNat = (b + 1) - a := by omega
    rw [e1, e2, pw_split]
    calc den * 2 ^ a ≤ 2 ^ (b + 1) * 2 ^ a := Nat.mul_le_mul_right _ (by omega)
      _ = 2 ^ a * 2 ^ (b + 1) := Nat.mul_comm _ _
      _ ≤ num * 2 ^ (b + 1) := Nat.mul_le_mul_right _ a1
theorem enc_fin {s : Bool} {c : Nat} {k : Nat} : FP.Core.encode FP.Core.b32 (.fin s c (-149 + (k : Int))) = s.toNat * 2147483648 + if c < 8388608 then c else k * 8388608 + c := by
  show (if c < 8388608 then (s.toNat * 256 + 0) * 8388608 + c else (s.toNat * 256 + (((-149 + (k : Int)) - (-149)).toNat + 1)) * 8388608 + (c - 8388608)) = _
  split
  · omega
  · have : ((-149 + (k : Int)) - (-149)).toNat = k := by omega
    rw [this]; omega
/-- the last digit's exponent, from the least one on -/
theorem quan {num den : Nat} {e B : Int} {e' z : Nat} (h1 : 0 < num) (h2 : 0 < den) (he : e = B + e') (hz : -149 = B + z) : ∃ k : Nat, FP.Core.quantum FP.Core.b32 num den e = -149 + (k : Int) ∧ (k = 0 ∨ den * 2 ^ (z + k + 23) ≤ num * 2 ^ e') := by
  have hl := lead_le h1 h2
  unfold FP.Core.quantum
  show ∃ k : Nat, max (-149 : Int) (FP.Core.leading num den + e - ((24 : Int) - 1)) = -149 + (k : Int) ∧ _
  generalize FP.Core.leading num den = l at *
  refine ⟨(max (-149 : Int) (l + e - ((24 : Int) - 1)) + 149).toNat, by omega, ?_⟩
  by_cases h : l + e - 23 ≤ -149
  · left; omega
  · right
    have e1 : (max (-149 : Int) (l + e - ((24 : Int) - 1)) + 149).toNat = (l + e - 23 + 149).toNat := by congr 1; omega
    rw [e1]
    generalize hk : (l + e - 23 + 149).toNat = k at *
    have e2 : l.toNat = (z + k + 23) - e' := by omega
    have e3 : (-l).toNat = e' - (z + k + 23) := by omega
    rw [e2, e3, pw_split] at hl
    exact hl
theorem rr_eq {s : Bool} {num den : Nat} {e B : Int} {e' z : Nat} (h1 : 0 < num) (h2 : 0 < den) (he : e = B + e') (hz : -149 = B + z) : ∃ k c : Nat, FP.Core.roundRatio FP.Core.b32 s num den e = (if c < 16777216 then FP.Core.bound FP.Core.b32 s c (-149 + (k : Int)) else FP.Core.bound FP.Core.b32 s 8388608 (-149 + ((k + 1 : Nat) : Int))) ∧ c = FP.Core.nearest (num * 2 ^ (e' - (z + k))) (den * 2 ^ ((z + k) - e')) ∧ (k = 0 ∨ den * 2 ^ (z + k + 23) ≤ num * 2 ^ e') := by
  obtain ⟨k, q1, q2⟩ := quan h1 h2 he hz
  refine ⟨k, _, ?_, rfl, q2⟩
  unfold FP.Core.roundRatio
  rw [if_neg (by omega), q1]
  unfold FP.Core.roundAt FP.Core.settle FP.Core.unitsNum FP.Core.unitsDen
  have a1 : (e - (-149 + (k : Int))).toNat = e' - (z + k) := by omega
  have a2 : (-149 + (k : Int) - e).toNat = (z + k) - e' := by omega
  rw [a1, a2]
  show (if _ < 16777216 then _ else FP.Core.bound FP.Core.b32 s 8388608 (-149 + (k : Int) + 1)) = _
  rw [show -149 + (k : Int) + 1 = -149 + ((k + 1 : Nat) : Int) by omega]
  rfl
theorem rr_le {s : Bool} {num den m : Nat} {e B : Int} {e' z : Nat} (h2 : 0 < den) (he : e = B + e') (hz : -149 = B + z) (hm : m < 2139095040) (hle : num * 2 ^ e' ≤ fC m * den * 2 ^ (z + fE m)) : s.toNat * 2147483648 ≤ FP.Core.encode FP.Core.b32 (FP.Core.roundRatio FP.Core.b32 s num den e) ∧ FP.Core.encode FP.Core.b32 (FP.Core.roundRatio FP.Core.b32 s num den e) ≤ s.toNat * 2147483648 + m := by
  by_cases h1 : num = 0
  · subst h1
    have e0 : FP.Core.roundRatio FP.Core.b32 s 0 den e = .fin s 0 (-149 + ((0 : Nat) : Int)) := rfl
    rw [e0, enc_fin, if_pos (by omega)]; omega
  · have h1' : 0 < num := by omega
    obtain ⟨k, c, q1, q2, q3⟩ := rr_eq (s := s) h1' h2 he hz
    obtain ⟨f1, f2⟩ := fB m
    have f3 := fC_lt m
    have hEm : fE m ≤ 253 := by unfold fE; omega
    have hk : k ≤ fE m := by
      rcases q3 with q3 | q3
      · omega
      · apply Classical.byContradiction
        intro hc
        have a1 : den * 2 ^ (z + k + 23) ≤ fC m * den * 2 ^ (z + fE m) := Nat.le_trans q3 hle
        have a2 : fC m * den * 2 ^ (z + fE m) < 16777216 * den * 2 ^ (z + fE m) := Nat.mul_lt_mul_of_pos_right (Nat.mul_lt_mul_of_pos_right f3 h2) (Nat.two_pow_pos _)
        have a3 : 16777216 * den * 2 ^ (z + fE m) = den * 2 ^ (z + fE m + 24) := by rw [Nat.pow_add 2 (z + fE m) 24, ← Nat.mul_assoc, Nat.mul_comm (den * 2 ^ (z + fE m)), Nat.mul_assoc]
        have a4 : den * 2 ^ (z + fE m + 24) ≤ den * 2 ^ (z + k + 23) := Nat.mul_le_mul_left _ (Nat.pow_le_pow_right (by omega) (by omega))
        omega
    have hc : c ≤ fC m * 2 ^ (fE m - k) := by
      rw [q2]
      refine near_le ?_ (Nat.mul_pos h2 (Nat.two_pow_pos _))
      rw [← Nat.mul_assoc, pw_split]
      refine Nat.le_trans hle (Nat.le_of_eq ?_)
      rw [show z + fE m = (fE m - k) + (z + k) by omega, Nat.pow_add]
      simp only [Nat.mul_comm, Nat.mul_left_comm, Nat.mul_assoc]
    rw [q1]
    have bd : ∀ c j : Nat, j ≤ 253 → FP.Core.bound FP.Core.b32 s c (-149 + (j : Int)) = .fin s c (-149 + (j : Int)) := fun c j hj => by
      unfold FP.Core.bound
      rw [if_pos]
      show -149 + (j : Int) ≤ 104
      omega
    by_cases e : k = fE m
    · rw [e, Nat.sub_self, Nat.pow_zero, Nat.mul_one] at hc
      rw [if_pos (by omega), bd c k (by omega), enc_fin]
      constructor
      · omega
      · split
        · rcases f2 with f2 | f2 <;> omega
        · rw [e]; omega
    · have hf : 8388608 ≤ fC m := by rcases f2 with f2 | f2; omega; exact f2
      by_cases hcc : c < 16777216
      · rw [if_pos hcc, bd c k (by omega), enc_fin]
        constructor
        · omega
        · split
          · omega
          · have : (k + 1) * 8388608 ≤ fE m * 8388608 := Nat.mul_le_mul_right _ (by omega)
            omega
      · rw [if_neg hcc, bd _ (k + 1) (by omega), enc_fin]
        constructor
        · omega
        · rw [if_neg (Nat.lt_irrefl _)]
          have : (k + 1) * 8388608 ≤ fE m * 8388608 := Nat.mul_le_mul_right _ (by omega)
          exact Nat.add_le_add_left (Nat.le_trans (Nat.add_le_add this hf) (Nat.le_of_eq f1.symm)) _
theorem fV_mono {n m : Nat} (h : n ≤ m) : fV n ≤ fV m := by
  obtain ⟨a1, a2⟩ := fB n
  obtain ⟨b1, b2⟩ := fB m
  have a3 := fC_lt n
  unfold fV
  by_cases e : fE n = fE m
  · rw [e]; refine Nat.mul_le_mul_right _ ?_; rw [e] at a1; omega
  · have hlt : fE n < fE m := by
      rcases Nat.lt_or_ge (fE n) (fE m) with q | q
      · exact q
      · exfalso
        have q' : (fE m + 1) * 8388608 ≤ fE n * 8388608 := Nat.mul_le_mul_right _ (by omega)
        have b3 := fC_lt m
        rcases a2 with a2 | a2
        · omega
        · omega
    have hb : 8388608 ≤ fC m := by rcases b2 with b2 | b2; omega; exact b2
    calc fC n * 2 ^ fE n ≤ 16777216 * 2 ^ fE n := Nat.mul_le_mul_right _ (by omega)
      _ = 8388608 * 2 ^ (fE n + 1) := by rw [Nat.pow_succ]; omega
      _ ≤ 8388608 * 2 ^ fE m := Nat.mul_le_mul_left _ (Nat.pow_le_pow_right (by omega) (by omega))
      _ ≤ fC m * 2 ^ fE m := Nat.mul_le_mul_right _ hb
theorem ofN_le {n m : Nat} (h : n ≤ m) (hm : m < 4294967296) : (UInt32.ofNat n).toNat = n := by
  rw [UInt32.toNat_ofNat']; exact Nat.mod_eq_of_lt (by omega)
theorem fmul_le {x y : UInt32} {m : Nat} (hx : x.toNat < 2139095040) (hy : y.toNat < 2139095040) (hm : m < 2139095040) (h : fV x.toNat * fV y.toNat ≤ fV m * 2 ^ 149) : (FP.fmul x y).toNat ≤ m := by
  have key : FP.Core.mul FP.Core.b32 x.toNat y.toNat ≤ m := by
    unfold FP.Core.mul
    rw [dec_pos hx, dec_pos hy]
    show FP.Core.encode FP.Core.b32 (FP.Core.roundRatio FP.Core.b32 false (fC x.toNat * fC y.toNat) 1 ((-149 + (fE x.toNat : Int)) + (-149 + (fE y.toNat : Int)))) ≤ m
    have := (rr_le (s := false) (num := fC x.toNat * fC y.toNat) (den := 1) (m := m) (e := (-149 + (fE x.toNat : Int)) + (-149 + (fE y.toNat : Int))) (B := -298) (e' := fE x.toNat + fE y.toNat) (z := 149) (by omega) (by omega) (by omega) hm (by
      unfold fV at h
      rw [Nat.pow_add, Nat.mul_one, Nat.pow_add 2 149]
      refine Nat.le_trans (Nat.le_of_eq ?_) (Nat.le_trans h (Nat.le_of_eq ?_))
      · simp only [Nat.mul_comm, Nat.mul_left_comm, Nat.mul_assoc]
      · simp only [Nat.mul_comm, Nat.mul_left_comm, Nat.mul_assoc])).2
    simpa using this
  show (UInt32.ofNat (FP.Core.mul FP.Core.b32 x.toNat y.toNat)).toNat ≤ m
  rw [ofN_le key (by omega)]; exact key
theorem fdiv_le {x y : UInt32} {m : Nat} (hx : x.toNat < 2139095040) (hy : y.toNat < 2139095040) (hm : m < 2139095040) (h0 : 0 < fC y.toNat) (h : fV x.toNat * 2 ^ 149 ≤ fV m * fV y.toNat) : (FP.fdiv x y).toNat ≤ m := by
  have key : FP.Core.div FP.Core.b32 x.toNat y.toNat ≤ m := by
    unfold FP.Core.div
    rw [dec_pos hx, dec_pos hy]
    show FP.Core.encode FP.Core.b32 (if fC y.toNat = 0 then _ else _) ≤ m
    rw [if_neg (by omega)]
    have := (rr_le (s := false) (num := fC x.toNat) (den := fC y.toNat) (m := m) (e := (-149 + (fE x.toNat : Int)) - (-149 + (fE y.toNat : Int))) (B := -149 - (fE y.toNat : Int)) (e' := fE x.toNat + 149) (z := fE y.toNat) h0 (by omega) (by omega) hm (by
      unfold fV at h
      rw [Nat.pow_add, Nat.pow_add 2 (fE y.toNat)]
      refine Nat.le_trans (Nat.le_of_eq ?_) (Nat.le_trans h (Nat.le_of_eq ?_))
      · simp only [Nat.mul_comm, Nat.mul_left_comm, Nat.mul_assoc]
      · simp only [Nat.mul_comm, Nat.mul_left_comm, Nat.mul_assoc])).2
    simpa using this
  show (UInt32.ofNat (FP.Core.div FP.Core.b32 x.toNat y.toNat)).toNat ≤ m
  rw [ofN_le key (by omega)]; exact key
theorem inU {c k j : Nat} (h : j ≤ k) : FP.Core.inUnits c (-149 + (k : Int)) (-149 + (j : Int)) * 2 ^ j = c * 2 ^ k := by
  unfold FP.Core.inUnits
  rw [show (-149 + (k : Int) - (-149 + (j : Int))).toNat = k - j by omega, Nat.mul_assoc, ← Nat.pow_add, show k - j + j = k by omega]
theorem min_e {a b : Nat} : min (-149 + (a : Int)) (-149 + (b : Int)) = -149 + ((min a b : Nat) : Int) := by omega
theorem fadd_le {x y : UInt32} {m : Nat} (hx : x.toNat < 2139095040) (hy : y.toNat < 2139095040) (hm : m < 2139095040) (h : fV x.toNat + fV y.toNat ≤ fV m) : (FP.fadd x y).toNat ≤ m := by
  have key : FP.Core.add FP.Core.b32 x.toNat y.toNat ≤ m := by
    unfold FP.Core.add
    rw [dec_pos hx, dec_pos hy]
    unfold FP.Core.exactSum
    simp only [min_e]
    have u1 := inU (c := fC x.toNat) (k := fE x.toNat) (j := min (fE x.toNat) (fE y.toNat)) (by omega)
    have u2 := inU (c := fC y.toNat) (k := fE y.toNat) (j := min (fE x.toNat) (fE y.toNat)) (by omega)
    unfold FP.Core.sumUnits FP.Core.signed
    simp only [Bool.false_eq_true, if_false]
    generalize FP.Core.inUnits (fC x.toNat) (-149 + (fE x.toNat : Int)) (-149 + ((min (fE x.toNat) (fE y.toNat) : Nat) : Int)) = a at *
    generalize FP.Core.inUnits (fC y.toNat) (-149 + (fE y.toNat : Int)) (-149 + ((min (fE x.toNat) (fE y.toNat) : Nat) : Int)) = b at *
    have s1 : FP.Core.sumSign false false ((a : Int) + (b : Int)) = false := by
      unfold FP.Core.sumSign
      split
      · rfl
      · exact decide_eq_false (by omega)
    rw [s1, show ((a : Int) + (b : Int)).natAbs = a + b by omega]
    show FP.Core.encode FP.Core.b32 (FP.Core.roundRatio FP.Core.b32 false (a + b) 1 _) ≤ m
    have := (rr_le (s := false) (num := a + b) (den := 1) (m := m) (e := -149 + ((min (fE x.toNat) (fE y.toNat) : Nat) : Int)) (B := -149) (e' := min (fE x.toNat) (fE y.toNat)) (z := 0) (by omega) rfl (by omega) hm (by
      rw [Nat.add_mul, u1, u2, Nat.mul_one, Nat.zero_add]; exact h)).2
    simpa using this
  show (UInt32.ofNat (FP.Core.add FP.Core.b32 x.toNat y.toNat)).toNat ≤ m
  rw [ofN_le key (by omega)]; exact key
/-- a difference: from 0 on and not above its first, or below 0 -/
theorem fsub_or {x y : UInt32} {m : Nat} (hx : x.toNat ≤ m) (hy : y.toNat ≤ m) (hm : m < 2139095040) : (FP.fsub x y).toNat ≤ x.toNat ∨ ∃ n, 0 < n ∧ n ≤ m ∧ (FP.fsub x y).toNat = 2147483648 + n := by
  have hx' : x.toNat < 2139095040 := by omega
  have hy' : y.toNat < 2139095040 := by omega
  have key : FP.Core.sub FP.Core.b32 x.toNat y.toNat ≤ x.toNat ∨ ∃ n, 0 < n ∧ n ≤ m ∧ FP.Core.sub FP.Core.b32 x.toNat y.toNat = 2147483648 + n := by
    unfold FP.Core.sub
    rw [dec_pos hx', dec_pos hy']
    unfold FP.Core.negate FP.Core.exactSum
    simp only [min_e]
    have u1 := inU (c := fC x.toNat) (k := fE x.toNat) (j := min (fE x.toNat) (fE y.toNat)) (by omega)
    have u2 := inU (c := fC y.toNat) (k := fE y.toNat) (j := min (fE x.toNat) (fE y.toNat)) (by omega)
    have vx := fV_mono hx
    have vy := fV_mono hy
    unfold FP.Core.sumUnits FP.Core.signed
    simp only [Bool.false_eq_true, if_false, Bool.not_false, if_true]
    have ux : fV x.toNat = fC x.toNat * 2 ^ fE x.toNat := rfl
    have uy : fV y.toNat = fC y.toNat * 2 ^ fE y.toNat := rfl
    have um : fV m = fC m * 2 ^ fE m := rfl
    rw [← ux] at u1
    rw [← uy] at u2
    generalize FP.Core.inUnits (fC x.toNat) (-149 + (fE x.toNat : Int)) (-149 + ((min (fE x.toNat) (fE y.toNat) : Nat) : Int)) = a at *
    generalize FP.Core.inUnits (fC y.toNat) (-149 + (fE y.toNat : Int)) (-149 + ((min (fE x.toNat) (fE y.toNat) : Nat) : Int)) = b at *
    generalize min (fE x.toNat) (fE y.toNat) = j at *
    by_cases hab : b ≤ a
    · left
      have s1 : FP.Core.sumSign false true ((a : Int) + -(b : Int)) = false := by
        unfold FP.Core.sumSign
        split
        · rfl
        · exact decide_eq_false (by omega)
      rw [s1, show ((a : Int) + -(b : Int)).natAbs = a - b by omega]
      show FP.Core.encode FP.Core.b32 (FP.Core.roundRatio FP.Core.b32 false (a - b) 1 _) ≤ x.toNat
      have := (rr_le (s := false) (num := a - b) (den := 1) (m := x.toNat) (e := -149 + (j : Int)) (B := -149) (e' := j) (z := 0) (by omega) rfl (by omega) hx' (by
        rw [Nat.mul_one, Nat.zero_add, ← ux, ← u1]; exact Nat.mul_le_mul_right _ (by omega))).2
      simpa using this
    · right
      have s1 : FP.Core.sumSign false true ((a : Int) + -(b : Int)) = true := by
        unfold FP.Core.sumSign
        rw [if_neg (by omega)]
        exact decide_eq_true (by omega)
      rw [s1, show ((a : Int) + -(b : Int)).natAbs = b - a by omega]
      show ∃ n, 0 < n ∧ n ≤ m ∧ FP.Core.encode FP.Core.b32 (FP.Core.roundRatio FP.Core.b32 true (b - a) 1 (-149 + (j : Int))) = 2147483648 + n
      obtain ⟨g1, g2⟩ := rr_le (s := true) (num := b - a) (den := 1) (m := m) (e := -149 + (j : Int)) (B := -149) (e' := j) (z := 0) (by omega) rfl (by omega) hm (by
        rw [Nat.mul_one, Nat.zero_add, ← um]
        refine Nat.le_trans ?_ vy
        rw [← u2]; exact Nat.mul_le_mul_right _ (by omega))
      obtain ⟨k, c, q1, q2, q3⟩ := rr_eq (s := true) (num := b - a) (den := 1) (e := -149 + (j : Int)) (B := -149) (e' := j) (z := 0) (by omega) (by omega) rfl (by omega)
      have hc : 1 ≤ c := by
        rw [q2]
        refine near_ge ?_ (Nat.mul_pos (by omega) (Nat.two_pow_pos _))
        rw [← Nat.mul_assoc, pw_split]
        rcases q3 with q3 | q3
        · rw [q3]; simp only [Nat.add_zero, Nat.pow_zero, Nat.mul_one]
          exact Nat.mul_pos (by omega) (Nat.two_pow_pos _)
        · refine Nat.le_trans ?_ q3
          simp only [Nat.one_mul]
          exact Nat.pow_le_pow_right (Nat.succ_pos 1) (Nat.le_add_right _ _)
      have hne : ¬ FP.Core.encode FP.Core.b32 (FP.Core.roundRatio FP.Core.b32 true (b - a) 1 (-149 + (j : Int))) = 2147483648 := by
        intro z
        rw [q1] at z
        have tt : true.toNat = 1 := rfl
        unfold FP.Core.bound at z
        split at z
        · split at z
          · rw [enc_fin, tt] at z
            split at z <;> omega
          · have : FP.Core.encode FP.Core.b32 (.inf true) = 4286578688 := rfl
            rw [this] at z; omega
        · split at z
          · rw [enc_fin, tt, if_neg (by omega)] at z
            omega
          · have : FP.Core.encode FP.Core.b32 (.inf true) = 4286578688 := rfl
            rw [this] at z; omega
      have tt : true.toNat = 1 := rfl
      rw [tt] at g1 g2
      exact ⟨FP.Core.encode FP.Core.b32 (FP.Core.roundRatio FP.Core.b32 true (b - a) 1 (-149 + (j : Int))) - 2147483648, by omega, by omega, by omega⟩
  have e : (FP.fsub x y).toNat = FP.Core.sub FP.Core.b32 x.toNat y.toNat := by
    show (UInt32.ofNat (FP.Core.sub FP.Core.b32 x.toNat y.toNat)).toNat = _
    rcases key with k | ⟨n, -, k2, k3⟩
    · exact ofN_le k (by omega)
    · rw [k3]; exact ofN_le (m := 2147483648 + n) (Nat.le_refl _) (by omega)
  rw [e]; exact key
/-- comparisons -/
theorem fcmp_lt {x y : UInt32} (hx : x.toNat < 2139095040) (hy : y.toNat < 2139095040) (h : fV x.toNat < fV y.toNat) : FP.fcmp x y = some .lt := by
  show FP.Core.cmp FP.Core.b32 x.toNat y.toNat = _
  unfold FP.Core.cmp
  rw [dec_pos hx, dec_pos hy]
  unfold FP.Core.order FP.Core.signed
  simp only [min_e, Bool.false_eq_true, if_false]
  have u1 := inU (c := fC x.toNat) (k := fE x.toNat) (j := min (fE x.toNat) (fE y.toNat)) (by omega)
  have u2 := inU (c := fC y.toNat) (k := fE y.toNat) (j := min (fE x.toNat) (fE y.toNat)) (by omega)
  unfold fV at h
  rw [← u1, ← u2] at h
  have := Nat.lt_of_mul_lt_mul_right h
  congr 1
  exact Int.compare_eq_lt.mpr (by omega)
theorem fcmp_ge {x y : UInt32} (hx : x.toNat < 2139095040) (hy : y.toNat < 2139095040) (h : fV y.toNat ≤ fV x.toNat) : FP.fcmp x y = some .gt ∨ FP.fcmp x y = some .eq := by
  show FP.Core.cmp FP.Core.b32 x.toNat y.toNat = _ ∨ FP.Core.cmp FP.Core.b32 x.toNat y.toNat = _
  unfold FP.Core.cmp
  rw [dec_pos hx, dec_pos hy]
  unfold FP.Core.order FP.Core.signed
  simp only [min_e, Bool.false_eq_true, if_false]
  have u1 := inU (c := fC x.toNat) (k := fE x.toNat) (j := min (fE x.toNat) (fE y.toNat)) (by omega)
  have u2 := inU (c := fC y.toNat) (k := fE y.toNat) (j := min (fE x.toNat) (fE y.toNat)) (by omega)
  unfold fV at h
  rw [← u1, ← u2] at h
  have := Nat.le_of_mul_le_mul_right h (Nat.two_pow_pos _)
  generalize FP.Core.inUnits (fC x.toNat) (-149 + (fE x.toNat : Int)) (-149 + ((min (fE x.toNat) (fE y.toNat) : Nat) : Int)) = a at *
  generalize FP.Core.inUnits (fC y.toNat) (-149 + (fE y.toNat : Int)) (-149 + ((min (fE x.toNat) (fE y.toNat) : Nat) : Int)) = b at *
  by_cases e : a = b
  · right; rw [e]; congr 1; exact Int.compare_eq_eq.mpr rfl
  · left; congr 1; exact Int.compare_eq_gt.mpr (by omega)
theorem fcmp_neg {x : UInt32} {n : Nat} (h : x.toNat = 2147483648 + n) (h0 : 0 < n) (hn : n < 2139095040) : FP.fcmp x FP.fconst0 = some .lt := by
  show FP.Core.cmp FP.Core.b32 x.toNat 0 = _
  unfold FP.Core.cmp
  rw [h, dec_neg hn, dec_pos (n := 0) (by omega)]
  unfold FP.Core.order FP.Core.signed
  simp only [min_e, Bool.false_eq_true, if_false, if_true]
  have u1 := inU (c := fC n) (k := fE n) (j := min (fE n) (fE 0)) (by omega)
  have u2 := inU (c := fC 0) (k := fE 0) (j := min (fE n) (fE 0)) (by omega)
  have e0 : fC 0 * 2 ^ fE 0 = 0 := rfl
  rw [e0] at u2
  obtain ⟨f1, f2⟩ := fB n
  have hc : 0 < fC n := by rcases f2 with q | q <;> omega
  generalize FP.Core.inUnits (fC n) (-149 + (fE n : Int)) (-149 + ((min (fE n) (fE 0) : Nat) : Int)) = a at *
  generalize FP.Core.inUnits (fC 0) (-149 + (fE 0 : Int)) (-149 + ((min (fE n) (fE 0) : Nat) : Int)) = b at *
  have ha : 0 < a := by
    rcases Nat.eq_zero_or_pos a with z | z
    · rw [z, Nat.zero_mul] at u1
      have := Nat.mul_pos hc (Nat.two_pow_pos (fE n)); omega
    · exact z
  have hb : b = 0 := by
    rcases Nat.eq_zero_or_pos b with z | z
    · exact z
    · have := Nat.mul_pos z (Nat.two_pow_pos (min (fE n) (fE 0))); omega
  rw [hb]
  congr 1
  exact Int.compare_eq_lt.mpr (by omega)
/-- no NaN -/
theorem nn_le {x : UInt32} {m : Nat} (h : x.toNat ≤ m) (hm : m < 2139095040) : x &&& 0x7fffffff ≤ 0x7f800000 := by
  rw [UInt32.le_iff_toNat_le, UInt32.toNat_and]
  have h1 : x.toNat &&& (0x7fffffff : UInt32).toNat ≤ x.toNat := Nat.and_le_left
  have h2 : (0x7f800000 : UInt32).toNat = 2139095040 := rfl
  omega
theorem nn_neg {x : UInt32} {n : Nat} (h : x.toNat = 2147483648 + n) (hm : n < 2139095040) : x &&& 0x7fffffff ≤ 0x7f800000 := by
  rw [UInt32.le_iff_toNat_le, UInt32.toNat_and]
  have h2 : (0x7f800000 : UInt32).toNat = 2139095040 := rfl
  have h3 : (0x7fffffff : UInt32).toNat = 2 ^ 31 - 1 := rfl
  rw [h3, Nat.and_two_pow_sub_one_eq_mod, h2, h]
  omega
end FLT
