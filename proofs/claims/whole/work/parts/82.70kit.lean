/-! numbers, loops, layouts: what the models of both sides are rewritten with -/
theorem nI_mul (a b : Nat) : nI a * nI b = nI (a * b) := by
  show Int32.ofNat a * Int32.ofNat b = Int32.ofNat (a * b)
  exact (Int32.ofNat_mul a b).symm
theorem mInb_iff {j n : Nat} (h : j < 2 ^ 31) : mInb (nI j) n ↔ j < n := by
  show ¬ (nI j < 0 ∨ n ≤ (nI j).toNatClampNeg) ↔ j < n
  rw [nI_clamp h]
  exact ⟨fun q => by omega, fun q z => z.elim (nI_pos h) (by omega)⟩
theorem ng_toInt {k : Nat} (h : k < 2 ^ 31) : (-nI k).toInt = -(k : Int) := by
  rw [Int32.toInt_neg, nI_toInt h, Int.bmod_eq_of_le (by omega) (by omega)]
theorem nI_ng {a k : Nat} (h : a < 2 ^ 31) (h0 : 0 < k) (hk : k < 2 ^ 31) : (nI a = -nI k) ↔ False := by
  refine ⟨fun q => ?_, False.elim⟩
  have e := congrArg Int32.toInt q
  rw [nI_toInt h, ng_toInt hk] at e
  omega
theorem ng_nI {a k : Nat} (h : a < 2 ^ 31) (h0 : 0 < k) (hk : k < 2 ^ 31) : (-nI k = nI a) ↔ False := by rw [eq_comm]; exact nI_ng h h0 hk
theorem ng_ng {a k : Nat} (h : a < 2 ^ 31) (hk : k < 2 ^ 31) : (-nI a = -nI k) ↔ a = k := by
  refine ⟨fun q => ?_, fun q => by rw [q]⟩
  have e := congrArg Int32.toInt q
  rw [ng_toInt h, ng_toInt hk] at e
  omega
theorem nI_lt_ng {a k : Nat} (h : a < 2 ^ 31) (hk : k < 2 ^ 31) : (nI a < -nI k) ↔ False := by
  rw [Int32.lt_iff_toInt_lt, nI_toInt h, ng_toInt hk]; exact ⟨fun z => by omega, False.elim⟩
theorem ng_lt_nI {a k : Nat} (h : a < 2 ^ 31) (h0 : 0 < k) (hk : k < 2 ^ 31) : (-nI k < nI a) ↔ True := by
  rw [Int32.lt_iff_toInt_lt, nI_toInt h, ng_toInt hk]; exact ⟨fun _ => trivial, fun _ => by omega⟩
theorem nI_le_ng {a k : Nat} (h : a < 2 ^ 31) (h0 : 0 < k) (hk : k < 2 ^ 31) : (nI a ≤ -nI k) ↔ False := by
  rw [Int32.le_iff_toInt_le, nI_toInt h, ng_toInt hk]; exact ⟨fun z => by omega, False.elim⟩
theorem ng_le_nI {a k : Nat} (h : a < 2 ^ 31) (hk : k < 2 ^ 31) : (-nI k ≤ nI a) ↔ True := by
  rw [Int32.le_iff_toInt_le, nI_toInt h, ng_toInt hk]; exact ⟨fun _ => trivial, fun _ => by omega⟩
theorem nI_sub {a b : Nat} (h : b ≤ a) : nI a - nI b = nI (a - b) := by
  have e : nI a = nI (a - b) + nI b := by rw [nI_add]; congr 1; omega
  rw [e, Int32.add_sub_cancel]
theorem nI_div {a b : Nat} (ha : a < 2 ^ 31) (hb : b < 2 ^ 31) : nI a / nI b = nI (a / b) := by
  have e := Int32.toInt_div (nI a) (nI b)
  have hq : a / b < 2 ^ 31 := Nat.lt_of_le_of_lt (Nat.div_le_self a b) ha
  apply Int32.toInt_inj.mp
  rw [e, nI_toInt ha, nI_toInt hb, nI_toInt hq]
  rw [Int.tdiv_eq_ediv_of_nonneg (by omega)]
  have e2 : ((a : Int) / (b : Int)) = ((a / b : Nat) : Int) := by simp
  rw [e2]
  generalize a / b = c at *
  rw [Int.bmod_eq_of_le (by omega) (by omega)]

theorem L_0 : (0 : Int32) = nI 0 := rfl
theorem L_1 : (1 : Int32) = nI 1 := rfl
theorem L_2 : (2 : Int32) = nI 2 := rfl
theorem L_3 : (3 : Int32) = nI 3 := rfl
theorem L_4 : (4 : Int32) = nI 4 := rfl
theorem L_5 : (5 : Int32) = nI 5 := rfl
theorem L_6 : (6 : Int32) = nI 6 := rfl
theorem L_7 : (7 : Int32) = nI 7 := rfl
theorem L_8 : (8 : Int32) = nI 8 := rfl
theorem L_9 : (9 : Int32) = nI 9 := rfl
theorem L_10 : (10 : Int32) = nI 10 := rfl
theorem L_11 : (11 : Int32) = nI 11 := rfl
theorem L_12 : (12 : Int32) = nI 12 := rfl
theorem L_13 : (13 : Int32) = nI 13 := rfl
theorem L_14 : (14 : Int32) = nI 14 := rfl
theorem L_15 : (15 : Int32) = nI 15 := rfl
theorem L_16 : (16 : Int32) = nI 16 := rfl
theorem L_24 : (24 : Int32) = nI 24 := rfl
theorem L_31 : (31 : Int32) = nI 31 := rfl
theorem L_40 : (40 : Int32) = nI 40 := rfl
theorem L_48 : (48 : Int32) = nI 48 := rfl
theorem L_49 : (49 : Int32) = nI 49 := rfl
theorem L_50 : (50 : Int32) = nI 50 := rfl
theorem L_51 : (51 : Int32) = nI 51 := rfl
theorem L_60 : (60 : Int32) = nI 60 := rfl
theorem L_72 : (72 : Int32) = nI 72 := rfl
theorem L_99 : (99 : Int32) = nI 99 := rfl
theorem L_127 : (127 : Int32) = nI 127 := rfl
theorem L_132 : (132 : Int32) = nI 132 := rfl
theorem L_172 : (172 : Int32) = nI 172 := rfl
theorem L_412 : (412 : Int32) = nI 412 := rfl
theorem L_428 : (428 : Int32) = nI 428 := rfl
theorem L_429 : (429 : Int32) = nI 429 := rfl
theorem L_430 : (430 : Int32) = nI 430 := rfl
theorem L_431 : (431 : Int32) = nI 431 := rfl
theorem L_432 : (432 : Int32) = nI 432 := rfl
theorem L_433 : (433 : Int32) = nI 433 := rfl
theorem L_1000 : (1000 : Int32) = nI 1000 := rfl
/-- a truth as the machine's int -/
def bI (b : Bool) : Int32 := if b then nI 1 else nI 0
theorem bI_0 {b : Bool} : (bI b = nI 0) ↔ b = false := by cases b <;> simp [bI, nI_eq]
theorem bI_1 {b : Bool} : (bI b = nI 1) ↔ b = true := by cases b <;> simp [bI, nI_eq]
theorem bI_t : bI true = nI 1 := rfl
theorem bI_f : bI false = nI 0 := rfl
/-- a repetition -/
def rp {α : Type} (g : Nat → α → α) : Nat → α → α
  | 0, a => a
  | n + 1, a => g n (rp g n a)
theorem rp_congr {α : Type} {g h : Nat → α → α} {a : α} : ∀ {n : Nat}, (∀ i, i < n → ∀ x, g i x = h i x) → rp g n a = rp h n a
  | 0, _ => rfl
  | n + 1, H => by
    show g n (rp g n a) = h n (rp h n a)
    rw [rp_congr (fun i hi => H i (by omega)), H n (by omega)]
theorem mLoop_rp {σ ε ρ α : Type} {b : σ → Option (σ ⊕ (ε ⊕ ρ))} (st : Nat → α → σ) (g : Nat → α → α) (N : Nat) {a : α} {o : α → ε ⊕ ρ} (hs : ∀ i x, i < N → b (st i x) = some (.inl (st (i + 1) (g i x)))) (he : ∀ x, b (st N x) = some (.inr (o x))) {n : Nat} (hn : N < n) : mLoop b n (st 0 a) = some (o (rp g N a)) :=
  mLoop_seq0 (fun i => st i (rp g i a)) N (fun i hi => hs i _ hi) (he _) hn
/-- a loop that looks for the first index with a property -/
theorem mLoop_find {σ ε ρ : Type} {b : σ → Option (σ ⊕ (ε ⊕ ρ))} (st : Nat → σ) (N : Nat) (p : Nat → Prop) (x : Nat → ε ⊕ ρ) (e : ε ⊕ ρ) (hp : ∀ i, i < N → p i → b (st i) = some (.inr (x i))) (hq : ∀ i, i < N → ¬ p i → b (st i) = some (.inl (st (i + 1)))) (he : b (st N) = some (.inr e)) {n : Nat} (hn : N < n) : ∃ o, mLoop b n (st 0) = some o ∧ ((∃ i, i < N ∧ p i ∧ (∀ j, j < i → ¬ p j) ∧ o = x i) ∨ ((∀ j, j < N → ¬ p j) ∧ o = e)) := by
  refine mLoop_inv0 (b := b) (fun i s => s = st i ∧ ∀ j, j < i → ¬ p j) N (fun o => (∃ i, i < N ∧ p i ∧ (∀ j, j < i → ¬ p j) ∧ o = x i) ∨ ((∀ j, j < N → ¬ p j) ∧ o = e)) (fun i s hi hI => ?_) (fun s hI => ?_) ⟨rfl, fun j hj => by omega⟩ hn
  · obtain ⟨h1, h2⟩ := hI
    subst h1
    by_cases hpi : p i
    · exact Or.inr ⟨_, hp i hi hpi, Or.inl ⟨i, hi, hpi, h2, rfl⟩⟩
    · refine Or.inl ⟨_, hq i hi hpi, rfl, fun j hj => ?_⟩
      by_cases hji : j = i
      · subst hji; exact hpi
      · exact h2 j (by omega)
  · obtain ⟨h1, h2⟩ := hI
    subst h1
    exact ⟨_, he, Or.inr ⟨h2, rfl⟩⟩
/-- places in a fabric -/
def ro (f r : Nat) : Nat := f + 3 + 6 * r
def tu (f t : Nat) : Nat := f + 51 + 13 * t
def wy (f t d : Nat) : Nat := f + 52 + 13 * t + 6 * d
section FBL
variable {S : LyS} {P : LyP} {f j t d : Nat}
theorem FabL.s0 (h : FabL S P f) : S f = (1, 7) := h.1
theorem FabL.p0 (h : FabL S P f) : P f 0 = f + 1 := h.2.1
theorem FabL.p1 (h : FabL S P f) : P f 1 = f + 2 := h.2.2.1
theorem FabL.s1 (h : FabL S P f) : S (f + 1) = (24, 8) := h.2.2.2.1
theorem FabL.s2 (h : FabL S P f) : S (f + 2) = (26, 10) := h.2.2.2.2.1
theorem FabL.r (h : FabL S P f) (hj : j < 8) : P (f + 1) j = ro f j := (h.2.2.2.2.2.1 j hj).1
theorem FabL.rr (h : FabL S P f) (hj : j < 8) : RouL S P (ro f j) := (h.2.2.2.2.2.1 j hj).2
theorem FabL.rs (h : FabL S P f) (hj : j < 8) : S (ro f j) = (4, 7) := (h.rr hj).1
theorem FabL.rl (h : FabL S P f) (hj : j < 8) : P (ro f j) 6 = ro f j + 1 := (h.rr hj).2.1
theorem FabL.ls (h : FabL S P f) (hj : j < 8) : S (ro f j + 1) = (2, 9) := (h.rr hj).2.2.1
theorem FabL.l5 (h : FabL S P f) (hj : j < 8) : P (ro f j + 1) 5 = ro f j + 2 := (h.rr hj).2.2.2.1
theorem FabL.l6 (h : FabL S P f) (hj : j < 8) : P (ro f j + 1) 6 = ro f j + 3 := (h.rr hj).2.2.2.2.1
theorem FabL.l7 (h : FabL S P f) (hj : j < 8) : P (ro f j + 1) 7 = ro f j + 4 := (h.rr hj).2.2.2.2.2.1
theorem FabL.l8 (h : FabL S P f) (hj : j < 8) : P (ro f j + 1) 8 = ro f j + 5 := (h.rr hj).2.2.2.2.2.2.1
theorem FabL.q2 (h : FabL S P f) (hj : j < 8) : S (ro f j + 2) = (10, 2) := (h.rr hj).2.2.2.2.2.2.2.1
theorem FabL.q3 (h : FabL S P f) (hj : j < 8) : S (ro f j + 3) = (10, 2) := (h.rr hj).2.2.2.2.2.2.2.2.1
theorem FabL.q4 (h : FabL S P f) (hj : j < 8) : S (ro f j + 4) = (10, 2) := (h.rr hj).2.2.2.2.2.2.2.2.2.1
theorem FabL.q5 (h : FabL S P f) (hj : j < 8) : S (ro f j + 5) = (11, 2) := (h.rr hj).2.2.2.2.2.2.2.2.2.2
theorem FabL.tp (h : FabL S P f) (hj : t < 10) : P (f + 2) t = tu f t := (h.2.2.2.2.2.2 t hj).1
theorem FabL.tt (h : FabL S P f) (hj : t < 10) : TunL S P (tu f t) := (h.2.2.2.2.2.2 t hj).2
theorem FabL.ts (h : FabL S P f) (hj : t < 10) : S (tu f t) = (6, 8) := (h.tt hj).1
theorem FabL.td (h : FabL S P f) (hj : t < 10) : P (tu f t) 6 = wy f t 0 := (h.tt hj).2.1.trans (by unfold tu wy; omega)
theorem FabL.tw (h : FabL S P f) (hj : t < 10) : P (tu f t) 7 = wy f t 1 := (h.tt hj).2.2.1.trans (by unfold tu wy; omega)
theorem FabL.ww (h : FabL S P f) (hj : t < 10) (hd : d < 2) : WayL S P (wy f t d) := by
  have h1 := (h.tt hj).2.2.2.1
  have h2 := (h.tt hj).2.2.2.2
  have e : d = 0 ∨ d = 1 := by omega
  rcases e with e | e
  · subst e; rw [show wy f t 0 = tu f t + 1 by unfold tu wy; omega]; exact h1
  · subst e; rw [show wy f t 1 = tu f t + 7 by unfold tu wy; omega]; exact h2
theorem FabL.ws (h : FabL S P f) (hj : t < 10) (hd : d < 2) : S (wy f t d) = (7, 9) := (h.ww hj hd).1
theorem FabL.w4 (h : FabL S P f) (hj : t < 10) (hd : d < 2) : P (wy f t d) 4 = wy f t d + 1 := (h.ww hj hd).2.1
theorem FabL.w5 (h : FabL S P f) (hj : t < 10) (hd : d < 2) : P (wy f t d) 5 = wy f t d + 2 := (h.ww hj hd).2.2.1
theorem FabL.w6 (h : FabL S P f) (hj : t < 10) (hd : d < 2) : P (wy f t d) 6 = wy f t d + 3 := (h.ww hj hd).2.2.2.1
theorem FabL.w7 (h : FabL S P f) (hj : t < 10) (hd : d < 2) : P (wy f t d) 7 = wy f t d + 4 := (h.ww hj hd).2.2.2.2.1
theorem FabL.w8 (h : FabL S P f) (hj : t < 10) (hd : d < 2) : P (wy f t d) 8 = wy f t d + 5 := (h.ww hj hd).2.2.2.2.2.1
theorem FabL.v1 (h : FabL S P f) (hj : t < 10) (hd : d < 2) : S (wy f t d + 1) = (10, 4) := (h.ww hj hd).2.2.2.2.2.2.1
theorem FabL.v2 (h : FabL S P f) (hj : t < 10) (hd : d < 2) : S (wy f t d + 2) = (10, 4) := (h.ww hj hd).2.2.2.2.2.2.2.1
theorem FabL.v3 (h : FabL S P f) (hj : t < 10) (hd : d < 2) : S (wy f t d + 3) = (10, 4) := (h.ww hj hd).2.2.2.2.2.2.2.2.1
theorem FabL.v4 (h : FabL S P f) (hj : t < 10) (hd : d < 2) : S (wy f t d + 4) = (10, 4) := (h.ww hj hd).2.2.2.2.2.2.2.2.2.1
theorem FabL.v5 (h : FabL S P f) (hj : t < 10) (hd : d < 2) : S (wy f t d + 5) = (10, 4) := (h.ww hj hd).2.2.2.2.2.2.2.2.2.2
end FBL
section RBL
variable {S : LyS} {P : LyP}
theorem RefL.s (h : RefL S P) : S 200 = (9, 21) := h.1
theorem RefL.r0 (h : RefL S P) : P 200 0 = 201 := h.2.1
theorem RefL.r1 (h : RefL S P) : P 200 1 = 202 := h.2.2.1
theorem RefL.r2 (h : RefL S P) : P 200 2 = 203 := h.2.2.2.1
theorem RefL.r3 (h : RefL S P) : P 200 3 = 204 := h.2.2.2.2.1
theorem RefL.r4 (h : RefL S P) : P 200 4 = 205 := h.2.2.2.2.2.1
theorem RefL.r5 (h : RefL S P) : P 200 5 = 206 := h.2.2.2.2.2.2.1
theorem RefL.r7 (h : RefL S P) : P 200 7 = 207 := h.2.2.2.2.2.2.2.1
theorem RefL.r8 (h : RefL S P) : P 200 8 = 208 := h.2.2.2.2.2.2.2.2.1
theorem RefL.r9 (h : RefL S P) : P 200 9 = 209 := h.2.2.2.2.2.2.2.2.2.1
theorem RefL.r10 (h : RefL S P) : P 200 10 = 210 := h.2.2.2.2.2.2.2.2.2.2.1
theorem RefL.r12 (h : RefL S P) : P 200 12 = 211 := h.2.2.2.2.2.2.2.2.2.2.2.1
theorem RefL.r13 (h : RefL S P) : P 200 13 = 212 := h.2.2.2.2.2.2.2.2.2.2.2.2.1
theorem RefL.r14 (h : RefL S P) : P 200 14 = 213 := h.2.2.2.2.2.2.2.2.2.2.2.2.2.1
theorem RefL.r15 (h : RefL S P) : P 200 15 = 214 := h.2.2.2.2.2.2.2.2.2.2.2.2.2.2.1
theorem RefL.r16 (h : RefL S P) : P 200 16 = 215 := h.2.2.2.2.2.2.2.2.2.2.2.2.2.2.2.1
theorem RefL.r17 (h : RefL S P) : P 200 17 = 216 := h.2.2.2.2.2.2.2.2.2.2.2.2.2.2.2.2.1
theorem RefL.r18 (h : RefL S P) : P 200 18 = 217 := h.2.2.2.2.2.2.2.2.2.2.2.2.2.2.2.2.2.1
theorem RefL.r19 (h : RefL S P) : P 200 19 = 218 := h.2.2.2.2.2.2.2.2.2.2.2.2.2.2.2.2.2.2.1
theorem RefL.a0 (h : RefL S P) : S 201 = (10, 433) := h.2.2.2.2.2.2.2.2.2.2.2.2.2.2.2.2.2.2.2.1
theorem RefL.a1 (h : RefL S P) : S 202 = (11, 16) := h.2.2.2.2.2.2.2.2.2.2.2.2.2.2.2.2.2.2.2.2.1
theorem RefL.a2 (h : RefL S P) : S 203 = (10, 866) := h.2.2.2.2.2.2.2.2.2.2.2.2.2.2.2.2.2.2.2.2.2.1
theorem RefL.a3 (h : RefL S P) : S 204 = (11, 32) := h.2.2.2.2.2.2.2.2.2.2.2.2.2.2.2.2.2.2.2.2.2.2.1
theorem RefL.a4 (h : RefL S P) : S 205 = (12, 2) := h.2.2.2.2.2.2.2.2.2.2.2.2.2.2.2.2.2.2.2.2.2.2.2.1
theorem RefL.a5 (h : RefL S P) : S 206 = (10, 60) := h.2.2.2.2.2.2.2.2.2.2.2.2.2.2.2.2.2.2.2.2.2.2.2.2.1
theorem RefL.a7 (h : RefL S P) : S 207 = (10, 8) := h.2.2.2.2.2.2.2.2.2.2.2.2.2.2.2.2.2.2.2.2.2.2.2.2.2.1
theorem RefL.a8 (h : RefL S P) : S 208 = (10, 8) := h.2.2.2.2.2.2.2.2.2.2.2.2.2.2.2.2.2.2.2.2.2.2.2.2.2.2.1
theorem RefL.a9 (h : RefL S P) : S 209 = (10, 8) := h.2.2.2.2.2.2.2.2.2.2.2.2.2.2.2.2.2.2.2.2.2.2.2.2.2.2.2.1
theorem RefL.a10 (h : RefL S P) : S 210 = (10, 8) := h.2.2.2.2.2.2.2.2.2.2.2.2.2.2.2.2.2.2.2.2.2.2.2.2.2.2.2.2.1
theorem RefL.a12 (h : RefL S P) : S 211 = (10, 6) := h.2.2.2.2.2.2.2.2.2.2.2.2.2.2.2.2.2.2.2.2.2.2.2.2.2.2.2.2.2.1
theorem RefL.a13 (h : RefL S P) : S 212 = (10, 6) := h.2.2.2.2.2.2.2.2.2.2.2.2.2.2.2.2.2.2.2.2.2.2.2.2.2.2.2.2.2.2.1
theorem RefL.a14 (h : RefL S P) : S 213 = (10, 80) := h.2.2.2.2.2.2.2.2.2.2.2.2.2.2.2.2.2.2.2.2.2.2.2.2.2.2.2.2.2.2.2.1
theorem RefL.a15 (h : RefL S P) : S 214 = (10, 16) := h.2.2.2.2.2.2.2.2.2.2.2.2.2.2.2.2.2.2.2.2.2.2.2.2.2.2.2.2.2.2.2.2.1
theorem RefL.a16 (h : RefL S P) : S 215 = (11, 8) := h.2.2.2.2.2.2.2.2.2.2.2.2.2.2.2.2.2.2.2.2.2.2.2.2.2.2.2.2.2.2.2.2.2.1
theorem RefL.a17 (h : RefL S P) : S 216 = (11, 10) := h.2.2.2.2.2.2.2.2.2.2.2.2.2.2.2.2.2.2.2.2.2.2.2.2.2.2.2.2.2.2.2.2.2.2.1
theorem RefL.a18 (h : RefL S P) : S 217 = (12, 10) := h.2.2.2.2.2.2.2.2.2.2.2.2.2.2.2.2.2.2.2.2.2.2.2.2.2.2.2.2.2.2.2.2.2.2.2.1
theorem RefL.a19 (h : RefL S P) : S 218 = (10, 10) := h.2.2.2.2.2.2.2.2.2.2.2.2.2.2.2.2.2.2.2.2.2.2.2.2.2.2.2.2.2.2.2.2.2.2.2.2
theorem ClsL.s (h : ClsL S P) : S 2 = (8, 6) := h.1
theorem ClsL.p0 (h : ClsL S P) : P 2 0 = 3 := h.2.1
theorem ClsL.p1 (h : ClsL S P) : P 2 1 = 11 := h.2.2.1
theorem ClsL.p2 (h : ClsL S P) : P 2 2 = 192 := h.2.2.2.1
theorem ClsL.p3 (h : ClsL S P) : P 2 3 = 193 := h.2.2.2.2.1
theorem ClsL.p4 (h : ClsL S P) : P 2 4 = 195 := h.2.2.2.2.2.1
theorem ClsL.p5 (h : ClsL S P) : P 2 5 = 199 := h.2.2.2.2.2.2.1
theorem ClsL.pl (h : ClsL S P) : PlanL S P 3 := h.2.2.2.2.2.2.2.1
theorem ClsL.fb (h : ClsL S P) : FabL S P 11 := h.2.2.2.2.2.2.2.2.1
theorem ClsL.s192 (h : ClsL S P) : S 192 = (21, 2) := h.2.2.2.2.2.2.2.2.2.1
theorem ClsL.ck (h : ClsL S P) : ClockL S P 193 := h.2.2.2.2.2.2.2.2.2.2.1
theorem ClsL.sh (h : ClsL S P) : SharesL S P 195 := h.2.2.2.2.2.2.2.2.2.2.2.1
theorem ClsL.s199 (h : ClsL S P) : S 199 = (10, 10) := h.2.2.2.2.2.2.2.2.2.2.2.2
end RBL
