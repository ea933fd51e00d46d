/-! base rows for the models: memory, numbers, loops -/
section B1
variable {μ : mM} {a k b j q t n : Nat} {x : Int32} {f : UInt32} {g : Int64}
theorem mI_UI : mI (mUI μ a k x) b j = if b = a ∧ j = k then x else mI μ b j := rfl
theorem mF_UI : mF (mUI μ a k x) = mF μ := rfl
theorem mJ_UI : mJ (mUI μ a k x) = mJ μ := rfl
theorem mP_UI : mP (mUI μ a k x) = mP μ := rfl
theorem mS_UI : mS (mUI μ a k x) = mS μ := rfl
theorem mNx_UI : mNx (mUI μ a k x) = mNx μ := rfl
theorem mSl_UI : mSl (mUI μ a k x) = mSl μ := rfl
theorem mI_UF : mI (mUF μ a k f) = mI μ := rfl
theorem mF_UF : mF (mUF μ a k f) b j = if b = a ∧ j = k then f else mF μ b j := rfl
theorem mJ_UF : mJ (mUF μ a k f) = mJ μ := rfl
theorem mP_UF : mP (mUF μ a k f) = mP μ := rfl
theorem mS_UF : mS (mUF μ a k f) = mS μ := rfl
theorem mNx_UF : mNx (mUF μ a k f) = mNx μ := rfl
theorem mSl_UF : mSl (mUF μ a k f) = mSl μ := rfl
theorem mI_UJ : mI (mUJ μ a k g) = mI μ := rfl
theorem mF_UJ : mF (mUJ μ a k g) = mF μ := rfl
theorem mJ_UJ : mJ (mUJ μ a k g) b j = if b = a ∧ j = k then g else mJ μ b j := rfl
theorem mP_UJ : mP (mUJ μ a k g) = mP μ := rfl
theorem mS_UJ : mS (mUJ μ a k g) = mS μ := rfl
theorem mNx_UJ : mNx (mUJ μ a k g) = mNx μ := rfl
theorem mSl_UJ : mSl (mUJ μ a k g) = mSl μ := rfl
theorem mI_UP : mI (mUP μ a k q) = mI μ := rfl
theorem mF_UP : mF (mUP μ a k q) = mF μ := rfl
theorem mJ_UP : mJ (mUP μ a k q) = mJ μ := rfl
theorem mP_UP : mP (mUP μ a k q) b j = if b = a ∧ j = k then q else mP μ b j := rfl
theorem mS_UP : mS (mUP μ a k q) = mS μ := rfl
theorem mNx_UP : mNx (mUP μ a k q) = mNx μ := rfl
theorem mSl_UP : mSl (mUP μ a k q) = mSl μ := rfl
theorem mI_Nw : mI (mNew μ t n) b j = if b = mNx μ then 0 else mI μ b j := rfl
theorem mF_Nw : mF (mNew μ t n) b j = if b = mNx μ then 0 else mF μ b j := rfl
theorem mJ_Nw : mJ (mNew μ t n) b j = if b = mNx μ then 0 else mJ μ b j := rfl
theorem mP_Nw : mP (mNew μ t n) b j = if b = mNx μ then 0 else mP μ b j := rfl
theorem mS_Nw : mS (mNew μ t n) b = if b = mNx μ then (t, n) else mS μ b := rfl
theorem mNx_Nw : mNx (mNew μ t n) = mNx μ + 1 := rfl
theorem mSl_Nw : mSl (mNew μ t n) = mSl μ + n := rfl
end B1
/-- the static part: references, shapes, how many cells and slots -/
abbrev mStat (μ : mM) : (Nat → Nat → Nat) × (Nat → Nat × Nat) × Nat × Nat := μ.2.2.2
theorem mInb_nI {j n : Nat} (h : j < n) (hn : n < 2 ^ 31) : mInb (nI j) n := nI_in h hn
theorem mInb_of {x : Int32} {n : Nat} (h : mInb x n) (hn : n < 2 ^ 31) : ∃ j, j < n ∧ x = nI j := vp_in_of h hn
theorem m_cl {j : Nat} (h : j < 2 ^ 31) : Int32.toNatClampNeg (nI j) = j := nI_clamp h
theorem m_lit (n : Nat) : (OfNat.ofNat n : Int32) = nI n := rfl
/-- a loop whose states are known one by one -/
theorem mLoop_seq {σ ε ρ : Type} {b : σ → Option (σ ⊕ (ε ⊕ ρ))} (st : Nat → σ) (N : Nat) {o : ε ⊕ ρ} (hs : ∀ i, i < N → b (st i) = some (.inl (st (i + 1)))) (he : b (st N) = some (.inr o)) : ∀ (d i : Nat), i + d = N → ∀ n, d < n → mLoop b n (st i) = some o
  | 0, i, hi, n, hn => by
    have : i = N := by omega
    subst this
    cases n with
    | zero => omega
    | succ n => simp only [mLoop, he]
  | d + 1, i, hi, n, hn => by
    cases n with
    | zero => omega
    | succ n =>
      simp only [mLoop, hs i (by omega)]
      exact mLoop_seq st N hs he d (i + 1) (by omega) n (by omega)
theorem mLoop_seq0 {σ ε ρ : Type} {b : σ → Option (σ ⊕ (ε ⊕ ρ))} (st : Nat → σ) (N : Nat) {o : ε ⊕ ρ} (hs : ∀ i, i < N → b (st i) = some (.inl (st (i + 1)))) (he : b (st N) = some (.inr o)) {n : Nat} (hn : N < n) : mLoop b n (st 0) = some o := mLoop_seq st N hs he N 0 (by omega) n hn
/-- a loop by an invariant: each step goes on or ends well -/
theorem mLoop_inv {σ ε ρ : Type} {b : σ → Option (σ ⊕ (ε ⊕ ρ))} (I : Nat → σ → Prop) (N : Nat) (Q : ε ⊕ ρ → Prop) (hs : ∀ i s, i < N → I i s → (∃ s', b s = some (.inl s') ∧ I (i + 1) s') ∨ ∃ o, b s = some (.inr o) ∧ Q o) (he : ∀ s, I N s → ∃ o, b s = some (.inr o) ∧ Q o) : ∀ (d i : Nat) (s : σ), i + d = N → I i s → ∀ n, d < n → ∃ o, mLoop b n s = some o ∧ Q o
  | 0, i, s, hi, hI, n, hn => by
    have : i = N := by omega
    subst this
    obtain ⟨o, h1, h2⟩ := he s hI
    cases n with
    | zero => omega
    | succ n => exact ⟨o, by simp only [mLoop, h1], h2⟩
  | d + 1, i, s, hi, hI, n, hn => by
    cases n with
    | zero => omega
    | succ n =>
      rcases hs i s (by omega) hI with ⟨s', h1, h2⟩ | ⟨o, h1, h2⟩
      · obtain ⟨o, h3, h4⟩ := mLoop_inv I N Q hs he d (i + 1) s' (by omega) h2 n (by omega)
        exact ⟨o, by simp only [mLoop, h1, h3], h4⟩
      · exact ⟨o, by simp only [mLoop, h1], h2⟩
theorem mLoop_inv0 {σ ε ρ : Type} {b : σ → Option (σ ⊕ (ε ⊕ ρ))} (I : Nat → σ → Prop) (N : Nat) (Q : ε ⊕ ρ → Prop) (hs : ∀ i s, i < N → I i s → (∃ s', b s = some (.inl s') ∧ I (i + 1) s') ∨ ∃ o, b s = some (.inr o) ∧ Q o) (he : ∀ s, I N s → ∃ o, b s = some (.inr o) ∧ Q o) {s : σ} (h0 : I 0 s) {n : Nat} (hn : N < n) : ∃ o, mLoop b n s = some o ∧ Q o := mLoop_inv I N Q hs he N 0 s (by omega) h0 n hn
/-- sums of a row -/
def mSum (f : Nat → Int32) : Nat → Int32
  | 0 => 0
  | n + 1 => mSum f n + f n
theorem mSum_congr {f g : Nat → Int32} : ∀ {n : Nat}, (∀ i, i < n → f i = g i) → mSum f n = mSum g n
  | 0, _ => rfl
  | n + 1, h => by
    show mSum f n + f n = mSum g n + g n
    rw [mSum_congr (fun i hi => h i (by omega)), h n (by omega)]
