/-! the abstract state: small numbers; how the reference and the class hold it -/
/-- routers (r, k), tunnels (t, k), ways (t, d, h, k), counts k, loads (r, d) -/
abbrev Ab : Type := (Nat → Nat → Nat) × (Nat → Nat → Nat) × (Nat → Nat → Nat → Nat → Nat) × (Nat → Nat) × (Nat → Nat → UInt32)
/-- of a router: 0 present, 1 kind, 2 generation, 3 parent, 4 port, 5 wide, 6 state of its link, 7 idle, 8 need, 9 and 10: one more than the tunnel that sent last by turns, down and up -/
abbrev aR (A : Ab) : Nat → Nat → Nat := A.1
/-- of a tunnel: 0 open, 1 kind, 2 device, 3 wanted, 4 granted, 5 how many were opened before -/
abbrev aT (A : Ab) : Nat → Nat → Nat := A.2.1
/-- of a hop of a way: 0 number, 1 credits, 2 cells; hop 4: 0 the queue, 1 delivered -/
abbrev aW (A : Ab) : Nat → Nat → Nat → Nat → Nat := A.2.2.1
/-- 0 ticks, 1 delivered, 2 lost, 3 patience, 4 opened -/
abbrev aC (A : Ab) : Nat → Nat := A.2.2.2.1
abbrev aL (A : Ab) : Nat → Nat → UInt32 := A.2.2.2.2
/-- the k-th ancestor -/
def anc (A : Ab) (r : Nat) : Nat → Nat
  | 0 => r
  | k + 1 => aR A (anc A r k) 3
/-- the depth, by at most n steps -/
def depN (A : Ab) : Nat → Nat → Nat
  | 0, _ => 0
  | n + 1, r => if r = 0 then 0 else depN A n (aR A r 3) + 1
def dep (A : Ab) (r : Nat) : Nat := depN A 5 r
def portsK (k : Nat) : Nat := if k = 0 then 3 else if k = 1 then 1 else if k = 2 then 1 else if k = 3 then 0 else 2
def bufK (k : Nat) : Nat := if k = 0 then 24 else if k = 1 then 12 else if k = 4 then 40 else 16
def lgen (A : Ab) (r : Nat) : Nat := min (aR A r 2) (aR A (aR A r 3) 2)
/-- the tree -/
def WFt (A : Ab) : Prop := aR A 0 0 = 1 ∧ aR A 0 1 = 4 ∧ aR A 0 2 = 3 ∧ aR A 0 3 = 0 ∧ aR A 0 4 = 0 ∧ (∀ r, r < 8 → aR A r 0 ≤ 1) ∧ ∀ r, 1 ≤ r → r < 8 → aR A r 0 = 1 → aR A r 1 ≤ 3 ∧ 1 ≤ aR A r 2 ∧ aR A r 2 ≤ 3 ∧ aR A r 3 < 8 ∧ aR A (aR A r 3) 0 = 1 ∧ dep A r = dep A (aR A r 3) + 1 ∧ dep A r ≤ 4 ∧ aR A r 4 < portsK (aR A (aR A r 3) 1) ∧ aR A r 5 ≤ 1 ∧ aR A r 6 ≤ 3 ∧ aR A r 9 ≤ 10 ∧ aR A r 10 ≤ 10
/-- the reference's row for the abstract state, at an offset -/
def RepM (I : Nat → Int32) (F : Nat → UInt32) (A : Ab) : Prop := (∀ r, r < 8 → ∀ k, k < 9 → I (9 * r + k) = nI (aR A r k)) ∧ (∀ t, t < 10 → ∀ k, k < 6 → I (72 + 6 * t + k) = nI (aT A t k)) ∧ (∀ t, t < 10 → ∀ d, d < 2 → I (132 + 4 * t + 2 * d) = nI (aW A t d 4 0) ∧ I (132 + 4 * t + 2 * d + 1) = nI (aW A t d 4 1)) ∧ (∀ t, t < 10 → ∀ d, d < 2 → ∀ h, h < 4 → ∀ k, k < 3 → I (172 + 3 * (8 * t + 4 * d + h) + k) = nI (aW A t d h k)) ∧ (∀ r, r < 8 → ∀ d, d < 2 → I (412 + 2 * r + d) = nI (aR A r (9 + d))) ∧ (I 428 = nI (aC A 0) ∧ I 429 = nI (aC A 1) ∧ I 430 = nI (aC A 2) ∧ I 431 = nI (aC A 3) ∧ I 432 = nI (aC A 4)) ∧ ∀ r, r < 8 → ∀ d, d < 2 → F (2 * r + d) = aL A r d
/-- one direction of an open tunnel in the class -/
def RepW (I : Nat → Nat → Int32) (w : Nat) (A : Ab) (t d : Nat) (n : Nat) (path : Nat → Nat) : Prop := I w 0 = 1 ∧ I w 1 = nI n ∧ I w 2 = nI (aW A t d 4 0) ∧ I w 3 = nI (aW A t d 4 1) ∧ ∀ h, h < n → I (w + 1) h = nI (path h) ∧ I (w + 2) h = nI (aW A t d h 0) ∧ I (w + 3) h = nI (aW A t d h 1) ∧ I (w + 4) h = nI (aW A t d h 2) ∧ I (w + 5) h = 0
/-- the class's fabric at f for the abstract state -/
def RepC (I : Nat → Nat → Int32) (F : Nat → Nat → UInt32) (f : Nat) (A : Ab) : Prop := (I f 2 = nI (aC A 3) ∧ I f 3 = nI (aC A 0) ∧ I f 4 = nI (aC A 1) ∧ I f 5 = nI (aC A 2) ∧ I f 6 = nI (aC A 4)) ∧
  (∀ r, r < 8 → I (f + 3 + 6 * r) 0 = nI (aR A r 0)) ∧
  (∀ r, r < 8 → aR A r 0 = 1 → I (f + 3 + 6 * r) 1 = nI (aR A r 1) ∧ I (f + 3 + 6 * r) 2 = nI (aR A r 2) ∧ I (f + 3 + 6 * r) 3 = nI (aR A r 3) ∧ I (f + 3 + 6 * r) 4 = nI (aR A r 4) ∧ I (f + 3 + 6 * r) 5 = nI (dep A r)) ∧
  (∀ r, 1 ≤ r → r < 8 → aR A r 0 = 1 → (I (f + 4 + 6 * r) 0 = nI (lgen A r) ∧ I (f + 4 + 6 * r) 1 = nI (aR A r 5) ∧ I (f + 4 + 6 * r) 2 = nI (aR A r 6) ∧ I (f + 4 + 6 * r) 3 = nI (aR A r 7) ∧ I (f + 4 + 6 * r) 4 = nI (aR A r 8)) ∧ I (f + 5 + 6 * r) 0 = nI (bufK (aR A r 1)) ∧ I (f + 5 + 6 * r) 1 = nI (bufK (aR A (aR A r 3) 1) / portsK (aR A (aR A r 3) 1)) ∧ ∀ d, d < 2 → I (f + 6 + 6 * r) d = nI (aR A r (9 + d)) - 1 ∧ F (f + 8 + 6 * r) d = aL A r d) ∧
  (∀ t, t < 10 → I (f + 51 + 13 * t) 0 = nI (aT A t 0)) ∧
  (∀ t, t < 10 → aT A t 0 = 1 → (I (f + 51 + 13 * t) 1 = nI (aT A t 1) ∧ I (f + 51 + 13 * t) 2 = nI (aT A t 2) ∧ I (f + 51 + 13 * t) 3 = nI (aT A t 3) ∧ I (f + 51 + 13 * t) 4 = nI (aT A t 4) ∧ I (f + 51 + 13 * t) 5 = nI (aT A t 5)) ∧ RepW I (f + 52 + 13 * t) A t 0 (dep A (aT A t 2)) (fun h => anc A (aT A t 2) (dep A (aT A t 2) - 1 - h)) ∧ (aT A t 1 = 0 → I (f + 58 + 13 * t) 0 = 0 ∧ I (f + 58 + 13 * t) 1 = 0 ∧ I (f + 58 + 13 * t) 2 = 0) ∧ (¬ aT A t 1 = 0 → RepW I (f + 58 + 13 * t) A t 1 (dep A (aT A t 2)) (fun h => anc A (aT A t 2) h)))
/-- the tunnels -/
def WFu (A : Ab) : Prop := (∀ t, t < 10 → aT A t 0 ≤ 1) ∧ aC A 3 ≤ 9 ∧ 1 ≤ aC A 3 ∧ aC A 4 ≤ 512 ∧ (∀ t, t < 10 → aT A t 0 = 1 → aT A t 1 ≤ 2 ∧ 1 ≤ aT A t 2 ∧ aT A t 2 < 8 ∧ aR A (aT A t 2) 0 = 1 ∧ aR A (aT A t 2) 1 = aT A t 1 + 1 ∧ 1 ≤ aT A t 3 ∧ aT A t 3 ≤ 12 ∧ aT A t 4 ≤ aT A t 3 ∧ aT A t 5 < aC A 4 ∧ (∀ d, d < 2 → aW A t d 4 0 ≤ 99 ∧ ∀ h, h < 4 → aW A t d h 2 ≤ aW A t d h 1 ∧ aW A t d h 1 ≤ 6) ∧ (∀ d h, d < 2 → h < dep A (aT A t 2) → (d = 0 ∨ ¬ aT A t 1 = 0) → 8 ≤ aW A t d h 0 ∧ aW A t d h 0 ≤ 15) ∧ (∀ d h k, d < 2 → h < 4 → k < 3 → (dep A (aT A t 2) ≤ h ∨ (d = 1 ∧ aT A t 1 = 0)) → aW A t d h k = 0) ∧ (aT A t 1 = 0 → aW A t 1 4 0 = 0 ∧ aW A t 1 4 1 = 0)) ∧ (∀ t u, t < 10 → u < 10 → aT A t 0 = 1 → aT A u 0 = 1 → aT A t 5 = aT A u 5 → t = u)
/-- the text -/
def RepT (μ : mM) (n : Nat) : Prop := n ≤ 60 ∧ mI μ 3 1 = nI n ∧ mI μ 200 6 = nI n ∧ ∀ j, j < n → mI μ 4 j = mI μ 206 j
/-- a slot: nothing saved, or a fabric and the reference's copy of it -/
def RepS (μ : mM) (s : Nat) : Prop := (mI μ 205 s = 0 ∧ mP μ 192 s = 0) ∨ (mI μ 205 s = 1 ∧ (mP μ 192 s = 219 ∨ mP μ 192 s = 400) ∧ FabL (mS μ) (mP μ) (mP μ 192 s) ∧ ∃ A, WFt A ∧ WFu A ∧ RepM (fun k => mI μ 203 (433 * s + k)) (fun k => mF μ 204 (16 * s + k)) A ∧ RepC (mI μ) (mF μ) (mP μ 192 s) A)
/-- cells and slots that were made -/
def RepN (μ : mM) : Prop := (mNx μ = 219 ∧ mSl μ ≤ 10000 ∧ mP μ 192 0 = 0 ∧ mP μ 192 1 = 0) ∨ (mNx μ = 400 ∧ mSl μ ≤ 20000 ∧ ((mP μ 192 0 = 219 ∧ mP μ 192 1 = 0) ∨ (mP μ 192 0 = 0 ∧ mP μ 192 1 = 219))) ∨ (mNx μ = 581 ∧ mSl μ ≤ 30000 ∧ ((mP μ 192 0 = 219 ∧ mP μ 192 1 = 400) ∨ (mP μ 192 0 = 400 ∧ mP μ 192 1 = 219)))
/-- THE INVARIANT of the law's loop -/
def Inv (L : Nat) (xs : Nat → Int32) (μ : mM) : Prop := ClsL (mS μ) (mP μ) ∧ RefL (mS μ) (mP μ) ∧ (mS μ 1 = (98, L) ∧ mI μ 1 = xs) ∧ RepN μ ∧ (∃ n, RepT μ n) ∧ (∀ s, s < 2 → RepS μ s) ∧ ∃ A, WFt A ∧ WFu A ∧ RepM (mI μ 201) (mF μ 202) A ∧ RepC (mI μ) (mF μ) 11 A
theorem Inv_base {L : Nat} {xs : Nat → Int32} {μ : mM} (h : Inv L xs μ) : mS μ 1 = (98, L) ∧ mI μ 1 = xs ∧ (mS μ 2).1 = 8 ∧ (mS μ 200).1 = 9 := ⟨h.2.2.1.1, h.2.2.1.2, by rw [h.1.1], by rw [h.2.1.1]⟩
