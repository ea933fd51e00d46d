/-! the abstract state: small numbers; how the reference and the class hold it -/
/-- routers (r, k), tunnels (t, k), ways (t, d, h, k), counts k, loads (r, d) -/
abbrev Ab : Type := (Nat → Nat → Nat) × (Nat → Nat → Nat) × (Nat → Nat → Nat → Nat → Nat) × (Nat → Nat) × (Nat → Nat → UInt32)
/-- of a router: 0 present, 1 kind, 2 generation, 3 parent, 4 port, 5 wide, 6 state of its link, 7 idle, 8 need, 9 and 10: one more than the tunnel that sent last by turns, down and up -/
abbrev aR (A : Ab) : Nat → Nat → Nat := A.1
/-- of a tunnel: 0 open, 1 kind, 2 device, 3 wanted, 4 granted, 5 how many were opened before -/
abbrev aT (A : Ab) : Nat → Nat → Nat := A.2.1
/-- of a hop of a way: 0 number, 1 credits, 2 cells; hop 4: 0 the queue, 1 delivered -/
abbrev aW (A : Ab) : Nat → Nat → Nat → Nat → Nat := A.2.2.1
/-- 0 ticks, 1 delivered, 2 lost, 3 patience, 4 opened -/
abbrev aC (A : Ab) : Nat → Nat := A.2.2.2.1
abbrev aL (A : Ab) : Nat → Nat → UInt32 := A.2.2.2.2
/-- the k-th ancestor -/
def anc (A : Ab) (r : Nat) : Nat → Nat
  | 0 => r
  | k + 1 => aR A (anc A r k) 3
/-- the depth, by at most n steps -/
def depN (A : Ab) : Nat → Nat → Nat
  | 0, _ => 0
  | n + 1, r => if r = 0 then 0 else depN A n (aR A r 3) + 1
def dep (A : Ab) (r : Nat) : Nat := depN A 5 r
def portsK (k : Nat) : Nat := if k = 0 then 3 else if k = 1 then 1 else if k = 2 then 1 else if k = 3 then 0 else 2
def bufK (k : Nat) : Nat := if k = 0 then 24 else if k = 1 then 12 else if k = 4 then 40 else 16
def lgen (A : Ab) (r : Nat) : Nat := min (aR A r 2) (aR A (aR A r 3) 2)
def rateK (g : Nat) : Nat := if g = 1 then 1 else if g = 2 then 2 else 4
def cap (A : Ab) (r d : Nat) : Nat := rateK (lgen A r) * (if aR A r 5 = 0 then 2 else if d = 0 then 3 else 1)
def poolK (A : Ab) (r d : Nat) : Nat := if d = 0 then bufK (aR A r 1) else bufK (aR A (aR A r 3) 1) / portsK (aR A (aR A r 3) 1)
/-- whether the path to a device has the link of a router -/
def onb (A : Ab) (r d : Nat) : Bool := decide (0 < r) && (List.range (dep A d)).any (fun k => anc A d k == r)
/-- whether an open tunnel uses a direction of a link -/
def us (A : Ab) (t r d : Nat) : Bool := (aT A t 0 == 1) && onb A r (aT A t 2) && (d == 0 || !(aT A t 1 == 0))
/-- which hop a link is for a tunnel -/
def hx (A : Ab) (t r d : Nat) : Nat := if d = 0 then dep A r - 1 else dep A (aT A t 2) - dep A r
def wU (A : Ab) (t d : Nat) : Nat := if d = 1 ∧ aT A t 1 = 0 then 0 else 1
def wN (A : Ab) (t d : Nat) : Nat := if d = 1 ∧ aT A t 1 = 0 then 0 else dep A (aT A t 2)
def wP (A : Ab) (t d h : Nat) : Nat := if d = 0 then anc A (aT A t 2) (dep A (aT A t 2) - 1 - h) else anc A (aT A t 2) h
def sumN (g : Nat → Nat) : Nat → Nat
  | 0 => 0
  | n + 1 => sumN g n + g n
/-- what is granted over a link -/
def rsv (A : Ab) (r : Nat) : Nat := sumN (fun t => if us A t r 0 = true ∧ aT A t 1 = 0 then aT A t 4 else 0) 10
/-- the tree -/
def WFr (A : Ab) (r : Nat) : Prop := aR A r 1 ≤ 3 ∧ 1 ≤ aR A r 2 ∧ aR A r 2 ≤ 3 ∧ aR A r 3 < 8 ∧ aR A (aR A r 3) 0 = 1 ∧ dep A r = dep A (aR A r 3) + 1 ∧ dep A r ≤ 4 ∧ aR A r 4 < portsK (aR A (aR A r 3) 1) ∧ aR A r 5 ≤ 1 ∧ aR A r 6 ≤ 3 ∧ aR A r 9 ≤ 10 ∧ aR A r 10 ≤ 10 ∧ (aR A r 6 = 3 → 1 ≤ aR A r 8 ∧ aR A r 8 ≤ 2) ∧ ∀ d, d < 2 → (aL A r d).toNat ≤ 1065353216
def WFt (A : Ab) : Prop := (aR A 0 0 = 1 ∧ aR A 0 1 = 4 ∧ aR A 0 2 = 3 ∧ aR A 0 3 = 0 ∧ aR A 0 4 = 0) ∧ (∀ r, r < 8 → aR A r 0 ≤ 1) ∧ (∀ r, 1 ≤ r → r < 8 → aR A r 0 = 1 → WFr A r) ∧ ∀ r q, 1 ≤ r → r < 8 → 1 ≤ q → q < 8 → aR A r 0 = 1 → aR A q 0 = 1 → aR A r 3 = aR A q 3 → aR A r 4 = aR A q 4 → r = q
/-- the tunnels -/
def WFo (A : Ab) (t : Nat) : Prop := aT A t 1 ≤ 2 ∧ 1 ≤ aT A t 2 ∧ aT A t 2 < 8 ∧ aR A (aT A t 2) 0 = 1 ∧ aR A (aT A t 2) 1 = aT A t 1 + 1 ∧ 1 ≤ aT A t 3 ∧ aT A t 3 ≤ 12 ∧ aT A t 4 ≤ aT A t 3 ∧ (∀ d, d < 2 → aW A t d 4 0 ≤ 99 ∧ ∀ h, h < 4 → aW A t d h 2 ≤ aW A t d h 1 ∧ aW A t d h 1 ≤ 6 ∧ aW A t d h 0 ≤ 15) ∧ (∀ d h, d < 2 → h < wN A t d → 8 ≤ aW A t d h 0) ∧ (∀ d h k, d < 2 → h < 4 → k < 3 → wN A t d ≤ h → aW A t d h k = 0) ∧ (aT A t 1 = 0 → aW A t 1 4 0 = 0 ∧ aW A t 1 4 1 = 0)
/-- how many tunnels of a kind are open -/
def opN (A : Ab) (k : Nat) : Nat := sumN (fun t => if aT A t 0 = 1 ∧ aT A t 1 = k then 1 else 0) 10
def WFu (A : Ab) : Prop := (∀ t, t < 10 → aT A t 0 ≤ 1) ∧ (aC A 3 ≤ 9 ∧ 1 ≤ aC A 3) ∧ (∀ t, t < 10 → aT A t 0 = 1 → WFo A t) ∧ (∀ r, 1 ≤ r → r < 8 → aR A r 0 = 1 → rsv A r < cap A r 0) ∧ ∀ k, k < 3 → opN A k ≤ if k = 0 then 2 else 4
/-- what the class's ways sent in this tick: nothing -/
def SZ (I : Nat → Nat → Int32) (f : Nat) (A : Ab) : Prop := ∀ t d h, t < 10 → aT A t 0 = 1 → d < 2 → h < wN A t d → I (wy f t d + 5) h = 0
/-- the reference's row for the abstract state -/
def RepM (I : Nat → Int32) (F : Nat → UInt32) (A : Ab) : Prop := (∀ r k, r < 8 → k < 9 → I (9 * r + k) = nI (aR A r k)) ∧ (∀ t k, t < 10 → k < 6 → I (72 + 6 * t + k) = nI (aT A t k)) ∧ (∀ t d k, t < 10 → d < 2 → k < 2 → I (132 + 4 * t + 2 * d + k) = nI (aW A t d 4 k)) ∧ (∀ t d h k, t < 10 → d < 2 → h < 4 → k < 3 → I (172 + 3 * (8 * t + 4 * d + h) + k) = nI (aW A t d h k)) ∧ (∀ r d, r < 8 → d < 2 → I (412 + 2 * r + d) = nI (aR A r (9 + d))) ∧ (∀ k, k < 5 → I (428 + k) = nI (aC A k)) ∧ ∀ r d, r < 8 → d < 2 → F (2 * r + d) = aL A r d
/-- the class's fabric at f for the abstract state -/
def RepC (I : Nat → Nat → Int32) (F : Nat → Nat → UInt32) (f : Nat) (A : Ab) : Prop := (I f 2 = nI (aC A 3) ∧ I f 3 = nI (aC A 0) ∧ I f 4 = nI (aC A 1) ∧ I f 5 = nI (aC A 2) ∧ I f 6 = nI (aC A 4)) ∧
  (∀ r, r < 8 → I (ro f r) 0 = nI (aR A r 0)) ∧
  (∀ r, r < 8 → aR A r 0 = 1 → I (ro f r) 1 = nI (aR A r 1) ∧ I (ro f r) 2 = nI (aR A r 2) ∧ I (ro f r) 3 = nI (aR A r 3) ∧ I (ro f r) 4 = nI (aR A r 4) ∧ I (ro f r) 5 = nI (dep A r)) ∧
  (∀ r, 1 ≤ r → r < 8 → aR A r 0 = 1 → (I (ro f r + 1) 0 = nI (lgen A r) ∧ I (ro f r + 1) 1 = nI (aR A r 5) ∧ I (ro f r + 1) 2 = nI (aR A r 6) ∧ I (ro f r + 1) 3 = nI (aR A r 7) ∧ I (ro f r + 1) 4 = nI (aR A r 8)) ∧ ∀ d, d < 2 → I (ro f r + 2) d = nI (poolK A r d) ∧ I (ro f r + 3) d = nI (aR A r (9 + d)) - 1 ∧ F (ro f r + 5) d = aL A r d) ∧
  (∀ t, t < 10 → I (tu f t) 0 = nI (aT A t 0)) ∧
  (∀ t, t < 10 → aT A t 0 = 1 → I (tu f t) 1 = nI (aT A t 1) ∧ I (tu f t) 2 = nI (aT A t 2) ∧ I (tu f t) 3 = nI (aT A t 3) ∧ I (tu f t) 4 = nI (aT A t 4) ∧ I (tu f t) 5 = nI (aT A t 5)) ∧
  (∀ t d, t < 10 → aT A t 0 = 1 → d < 2 → I (wy f t d) 0 = nI (wU A t d) ∧ I (wy f t d) 1 = nI (wN A t d) ∧ I (wy f t d) 2 = nI (aW A t d 4 0) ∧ I (wy f t d) 3 = nI (aW A t d 4 1)) ∧
  (∀ t d h, t < 10 → aT A t 0 = 1 → d < 2 → h < wN A t d → I (wy f t d + 1) h = nI (wP A t d h) ∧ I (wy f t d + 2) h = nI (aW A t d h 0) ∧ I (wy f t d + 3) h = nI (aW A t d h 1) ∧ I (wy f t d + 4) h = nI (aW A t d h 2))
section AC
variable {I : Nat → Nat → Int32} {F : Nat → Nat → UInt32} {f r d t h k : Nat} {A : Ab}
theorem RepC.k2 (H : RepC I F f A) : I f 2 = nI (aC A 3) := H.1.1
theorem RepC.k3 (H : RepC I F f A) : I f 3 = nI (aC A 0) := H.1.2.1
theorem RepC.k4 (H : RepC I F f A) : I f 4 = nI (aC A 1) := H.1.2.2.1
theorem RepC.k5 (H : RepC I F f A) : I f 5 = nI (aC A 2) := H.1.2.2.2.1
theorem RepC.k6 (H : RepC I F f A) : I f 6 = nI (aC A 4) := H.1.2.2.2.2
theorem RepC.r0 (H : RepC I F f A) (hr : r < 8) : I (ro f r) 0 = nI (aR A r 0) := H.2.1 r hr
theorem RepC.r1 (H : RepC I F f A) (hr : r < 8) (hp : aR A r 0 = 1) : I (ro f r) 1 = nI (aR A r 1) := (H.2.2.1 r hr hp).1
theorem RepC.r2 (H : RepC I F f A) (hr : r < 8) (hp : aR A r 0 = 1) : I (ro f r) 2 = nI (aR A r 2) := (H.2.2.1 r hr hp).2.1
theorem RepC.r3 (H : RepC I F f A) (hr : r < 8) (hp : aR A r 0 = 1) : I (ro f r) 3 = nI (aR A r 3) := (H.2.2.1 r hr hp).2.2.1
theorem RepC.r4 (H : RepC I F f A) (hr : r < 8) (hp : aR A r 0 = 1) : I (ro f r) 4 = nI (aR A r 4) := (H.2.2.1 r hr hp).2.2.2.1
theorem RepC.r5 (H : RepC I F f A) (hr : r < 8) (hp : aR A r 0 = 1) : I (ro f r) 5 = nI (dep A r) := (H.2.2.1 r hr hp).2.2.2.2
theorem RepC.g0 (H : RepC I F f A) (h1 : 1 ≤ r) (hr : r < 8) (hp : aR A r 0 = 1) : I (ro f r + 1) 0 = nI (lgen A r) := (H.2.2.2.1 r h1 hr hp).1.1
theorem RepC.g1 (H : RepC I F f A) (h1 : 1 ≤ r) (hr : r < 8) (hp : aR A r 0 = 1) : I (ro f r + 1) 1 = nI (aR A r 5) := (H.2.2.2.1 r h1 hr hp).1.2.1
theorem RepC.g2 (H : RepC I F f A) (h1 : 1 ≤ r) (hr : r < 8) (hp : aR A r 0 = 1) : I (ro f r + 1) 2 = nI (aR A r 6) := (H.2.2.2.1 r h1 hr hp).1.2.2.1
theorem RepC.g3 (H : RepC I F f A) (h1 : 1 ≤ r) (hr : r < 8) (hp : aR A r 0 = 1) : I (ro f r + 1) 3 = nI (aR A r 7) := (H.2.2.2.1 r h1 hr hp).1.2.2.2.1
theorem RepC.g4 (H : RepC I F f A) (h1 : 1 ≤ r) (hr : r < 8) (hp : aR A r 0 = 1) : I (ro f r + 1) 4 = nI (aR A r 8) := (H.2.2.2.1 r h1 hr hp).1.2.2.2.2
theorem RepC.o (H : RepC I F f A) (h1 : 1 ≤ r) (hr : r < 8) (hp : aR A r 0 = 1) (hd : d < 2) : I (ro f r + 2) d = nI (poolK A r d) := ((H.2.2.2.1 r h1 hr hp).2 d hd).1
theorem RepC.lt (H : RepC I F f A) (h1 : 1 ≤ r) (hr : r < 8) (hp : aR A r 0 = 1) (hd : d < 2) : I (ro f r + 3) d = nI (aR A r (9 + d)) - 1 := ((H.2.2.2.1 r h1 hr hp).2 d hd).2.1
theorem RepC.ld (H : RepC I F f A) (h1 : 1 ≤ r) (hr : r < 8) (hp : aR A r 0 = 1) (hd : d < 2) : F (ro f r + 5) d = aL A r d := ((H.2.2.2.1 r h1 hr hp).2 d hd).2.2
theorem RepC.t0 (H : RepC I F f A) (hr : t < 10) : I (tu f t) 0 = nI (aT A t 0) := H.2.2.2.2.1 t hr
theorem RepC.t1 (H : RepC I F f A) (hr : t < 10) (hp : aT A t 0 = 1) : I (tu f t) 1 = nI (aT A t 1) := (H.2.2.2.2.2.1 t hr hp).1
theorem RepC.t2 (H : RepC I F f A) (hr : t < 10) (hp : aT A t 0 = 1) : I (tu f t) 2 = nI (aT A t 2) := (H.2.2.2.2.2.1 t hr hp).2.1
theorem RepC.t3 (H : RepC I F f A) (hr : t < 10) (hp : aT A t 0 = 1) : I (tu f t) 3 = nI (aT A t 3) := (H.2.2.2.2.2.1 t hr hp).2.2.1
theorem RepC.t4 (H : RepC I F f A) (hr : t < 10) (hp : aT A t 0 = 1) : I (tu f t) 4 = nI (aT A t 4) := (H.2.2.2.2.2.1 t hr hp).2.2.2.1
theorem RepC.t5 (H : RepC I F f A) (hr : t < 10) (hp : aT A t 0 = 1) : I (tu f t) 5 = nI (aT A t 5) := (H.2.2.2.2.2.1 t hr hp).2.2.2.2
theorem RepC.w0 (H : RepC I F f A) (hr : t < 10) (hp : aT A t 0 = 1) (hd : d < 2) : I (wy f t d) 0 = nI (wU A t d) := (H.2.2.2.2.2.2.1 t d hr hp hd).1
theorem RepC.w1 (H : RepC I F f A) (hr : t < 10) (hp : aT A t 0 = 1) (hd : d < 2) : I (wy f t d) 1 = nI (wN A t d) := (H.2.2.2.2.2.2.1 t d hr hp hd).2.1
theorem RepC.w2 (H : RepC I F f A) (hr : t < 10) (hp : aT A t 0 = 1) (hd : d < 2) : I (wy f t d) 2 = nI (aW A t d 4 0) := (H.2.2.2.2.2.2.1 t d hr hp hd).2.2.1
theorem RepC.w3 (H : RepC I F f A) (hr : t < 10) (hp : aT A t 0 = 1) (hd : d < 2) : I (wy f t d) 3 = nI (aW A t d 4 1) := (H.2.2.2.2.2.2.1 t d hr hp hd).2.2.2
theorem RepC.x1 (H : RepC I F f A) (hr : t < 10) (hp : aT A t 0 = 1) (hd : d < 2) (hh : h < wN A t d) : I (wy f t d + 1) h = nI (wP A t d h) := (H.2.2.2.2.2.2.2 t d h hr hp hd hh).1
theorem RepC.x2 (H : RepC I F f A) (hr : t < 10) (hp : aT A t 0 = 1) (hd : d < 2) (hh : h < wN A t d) : I (wy f t d + 2) h = nI (aW A t d h 0) := (H.2.2.2.2.2.2.2 t d h hr hp hd hh).2.1
theorem RepC.x3 (H : RepC I F f A) (hr : t < 10) (hp : aT A t 0 = 1) (hd : d < 2) (hh : h < wN A t d) : I (wy f t d + 3) h = nI (aW A t d h 1) := (H.2.2.2.2.2.2.2 t d h hr hp hd hh).2.2.1
theorem RepC.x4 (H : RepC I F f A) (hr : t < 10) (hp : aT A t 0 = 1) (hd : d < 2) (hh : h < wN A t d) : I (wy f t d + 4) h = nI (aW A t d h 2) := (H.2.2.2.2.2.2.2 t d h hr hp hd hh).2.2.2
end AC
theorem onb_iff {A : Ab} {r d : Nat} : onb A r d = true ↔ 0 < r ∧ ∃ k, k < dep A d ∧ anc A d k = r := by
  unfold onb
  simp only [Bool.and_eq_true, decide_eq_true_eq, List.any_eq_true, List.mem_range, beq_iff_eq]
section TR
variable {A : Ab} {r d k t : Nat}
theorem dep_0 : dep A 0 = 0 := rfl
theorem WFt.p0 (h : WFt A) : aR A 0 0 = 1 := h.1.1
theorem WFt.k0 (h : WFt A) : aR A 0 1 = 4 := h.1.2.1
theorem WFt.g0 (h : WFt A) : aR A 0 2 = 3 := h.1.2.2.1
theorem WFt.q0 (h : WFt A) : aR A 0 3 = 0 := h.1.2.2.2.1
theorem WFt.le1 (h : WFt A) (hr : r < 8) : aR A r 0 ≤ 1 := h.2.1 r hr
theorem WFt.w (h : WFt A) (h1 : 1 ≤ r) (hr : r < 8) (hp : aR A r 0 = 1) : WFr A r := h.2.2.1 r h1 hr hp
theorem WFt.par (h : WFt A) (hr : r < 8) (hp : aR A r 0 = 1) : aR A r 3 < 8 ∧ aR A (aR A r 3) 0 = 1 ∧ dep A r ≤ 4 ∧ (1 ≤ r → dep A r = dep A (aR A r 3) + 1) ∧ (r = 0 → aR A r 3 = 0 ∧ dep A r = 0) := by
  by_cases h0 : r = 0
  · subst h0
    rw [h.q0]
    exact ⟨by omega, h.p0, by rw [dep_0]; omega, fun z => by omega, fun _ => ⟨rfl, rfl⟩⟩
  · obtain ⟨-, -, -, h4, h5, h6, h7, -⟩ := h.w (by omega) hr hp
    exact ⟨h4, h5, h7, fun _ => h6, fun z => absurd z h0⟩
theorem WFt.an (h : WFt A) (hr : r < 8) (hp : aR A r 0 = 1) : ∀ k, anc A r k < 8 ∧ aR A (anc A r k) 0 = 1 ∧ dep A (anc A r k) = dep A r - k
  | 0 => ⟨hr, hp, rfl⟩
  | k + 1 => by
    obtain ⟨a1, a2, a3⟩ := h.an hr hp k
    obtain ⟨b1, b2, b3, b4, b5⟩ := h.par a1 a2
    refine ⟨b1, b2, ?_⟩
    show dep A (aR A (anc A r k) 3) = _
    by_cases h0 : anc A r k = 0
    · rw [(b5 h0).1, dep_0]
      rw [(b5 h0).2] at a3
      omega
    · have := b4 (by omega)
      omega
theorem WFt.dep0 (h : WFt A) (hr : r < 8) (hp : aR A r 0 = 1) : dep A r = 0 ↔ r = 0 := by
  obtain ⟨b1, b2, b3, b4, b5⟩ := h.par hr hp
  refine ⟨fun z => ?_, fun z => by rw [z]; rfl⟩
  by_cases h0 : r = 0
  · exact h0
  · have := b4 (by omega); omega
theorem WFt.anc0 (h : WFt A) (hr : r < 8) (hp : aR A r 0 = 1) (k : Nat) : anc A r k = 0 ↔ dep A r ≤ k := by
  obtain ⟨a1, a2, a3⟩ := h.an hr hp k
  rw [← h.dep0 a1 a2, a3]; omega
theorem WFt.dep4 (h : WFt A) (hr : r < 8) (hp : aR A r 0 = 1) : dep A r ≤ 4 := (h.par hr hp).2.2.1
/-- a link on a path is there, and its depth tells its place -/
theorem WFt.on (h : WFt A) (hd : d < 8) (hp : aR A d 0 = 1) (ho : onb A r d = true) : 1 ≤ r ∧ r < 8 ∧ aR A r 0 = 1 ∧ 1 ≤ dep A r ∧ dep A r ≤ dep A d ∧ anc A d (dep A d - dep A r) = r := by
  obtain ⟨h0, k, hk, e⟩ := onb_iff.mp ho
  obtain ⟨a1, a2, a3⟩ := h.an hd hp k
  rw [e] at a1 a2 a3
  refine ⟨h0, a1, a2, by omega, by omega, ?_⟩
  rw [a3, show dep A d - (dep A d - k) = k by omega, e]
theorem WFt.on_iff (h : WFt A) (hd : d < 8) (hp : aR A d 0 = 1) (k : Nat) (hk : k < dep A d) : anc A d k = r ↔ (onb A r d = true ∧ k = dep A d - dep A r) := by
  constructor
  · intro e
    obtain ⟨a1, a2, a3⟩ := h.an hd hp k
    have h0 : ¬ anc A d k = 0 := fun z => by have := (h.anc0 hd hp k).mp z; omega
    rw [e] at a3 h0
    exact ⟨onb_iff.mpr ⟨by omega, k, hk, e⟩, by omega⟩
  · rintro ⟨e, rfl⟩
    exact (h.on hd hp e).2.2.2.2.2
theorem WFu.le1 (h : WFu A) (hr : t < 10) : aT A t 0 ≤ 1 := h.1 t hr
theorem WFu.o (h : WFu A) (hr : t < 10) (hp : aT A t 0 = 1) : WFo A t := h.2.2.1 t hr hp
theorem us_iff {A : Ab} {t r d : Nat} : us A t r d = true ↔ aT A t 0 = 1 ∧ onb A r (aT A t 2) = true ∧ (d = 0 ∨ ¬ aT A t 1 = 0) := by
  unfold us
  simp only [Bool.and_eq_true, beq_iff_eq, Bool.or_eq_true, Bool.not_eq_true', beq_eq_false_iff_ne, ne_eq, and_assoc]
end TR
