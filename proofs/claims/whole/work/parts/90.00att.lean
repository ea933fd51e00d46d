/-! a router added: the abstract state -/
def addA (A : Ab) (r p o k g : Nat) : Ab := ((fun a b => if a = r then (if b = 0 then 1 else if b = 1 then k else if b = 2 then g else if b = 3 then p else if b = 4 then o else 0) else A.1 a b), A.2.1, A.2.2.1, A.2.2.2.1, fun a d => if a = r then 0 else A.2.2.2.2 a d)
section AD
variable {μ μ' : mM} {A : Ab} {f r p o k g t d h q : Nat}
theorem add_ne {a b : Nat} (h : ¬ a = r) : aR (addA A r p o k g) a b = aR A a b := by show (if a = r then _ else _) = _; rw [if_neg h]
theorem add_0 : aR (addA A r p o k g) r 0 = 1 := by show (if r = r then _ else _) = _; rw [if_pos rfl]; rfl
theorem add_1 : aR (addA A r p o k g) r 1 = k := by show (if r = r then _ else _) = _; rw [if_pos rfl]; rfl
theorem add_2 : aR (addA A r p o k g) r 2 = g := by show (if r = r then _ else _) = _; rw [if_pos rfl]; rfl
theorem add_3 : aR (addA A r p o k g) r 3 = p := by show (if r = r then _ else _) = _; rw [if_pos rfl]; rfl
theorem add_4 : aR (addA A r p o k g) r 4 = o := by show (if r = r then _ else _) = _; rw [if_pos rfl]; rfl
theorem add_k {b : Nat} (h : 5 ≤ b) : aR (addA A r p o k g) r b = 0 := by
  show (if r = r then _ else _) = _
  rw [if_pos rfl, if_neg (by omega), if_neg (by omega), if_neg (by omega), if_neg (by omega), if_neg (by omega)]
theorem add_L {a d : Nat} : aL (addA A r p o k g) a d = if a = r then 0 else aL A a d := rfl
/-- may be added -/
def AddOK (A : Ab) (r p o k g : Nat) : Prop := 1 ≤ r ∧ r < 8 ∧ ¬ aR A r 0 = 1 ∧ p < 8 ∧ aR A p 0 = 1 ∧ k ≤ 3 ∧ 1 ≤ g ∧ g ≤ 3 ∧ o < portsK (aR A p 1) ∧ dep A p < 4 ∧ ∀ q, 1 ≤ q → q < 8 → aR A q 0 = 1 → ¬ (aR A q 3 = p ∧ aR A q 4 = o)
variable (hA : AddOK A r p o k g)
theorem AddOK.ne (hA : AddOK A r p o k g) {q : Nat} (hq : aR A q 0 = 1) : ¬ q = r := fun z => hA.2.2.1 (by rw [← z]; exact hq)
theorem depN_add (hA : AddOK A r p o k g) (ht : WFt A) : ∀ n q, q < 8 → aR A q 0 = 1 → depN (addA A r p o k g) n q = depN A n q
  | 0, _, _, _ => rfl
  | n + 1, q, hq, hp => by
    have hne := hA.ne hp
    obtain ⟨b1, b2, -⟩ := ht.par hq hp
    unfold depN
    rw [add_ne hne, depN_add hA ht n _ b1 b2]
theorem dep_add (hA : AddOK A r p o k g) (ht : WFt A) (hq : q < 8) (hp : aR A q 0 = 1) : dep (addA A r p o k g) q = dep A q := depN_add hA ht 5 q hq hp
theorem depN_st : ∀ n q, depN A (n + 1) q ≤ n → depN A n q = depN A (n + 1) q
  | 0, q, h => by
    have : depN A (0 + 1) q = 0 := by omega
    rw [this]; rfl
  | n + 1, q, h => by
    have e : depN A (n + 1 + 1) q = if q = 0 then 0 else depN A (n + 1) (aR A q 3) + 1 := rfl
    have e2 : depN A (n + 1) q = if q = 0 then 0 else depN A n (aR A q 3) + 1 := rfl
    rw [e, e2]
    rw [e] at h
    by_cases z : q = 0
    · rw [if_pos z, if_pos z]
    · rw [if_neg z, if_neg z]
      rw [if_neg z] at h
      rw [depN_st n _ (by omega)]
theorem dep_new (hA : AddOK A r p o k g) (ht : WFt A) : dep (addA A r p o k g) r = dep A p + 1 := by
  obtain ⟨h1, h2, h3, h4, h5, h6, h7, h8, h9, h10, h11⟩ := hA
  show depN (addA A r p o k g) (4 + 1) r = _
  have e : depN (addA A r p o k g) (4 + 1) r = if r = 0 then 0 else depN (addA A r p o k g) 4 (aR (addA A r p o k g) r 3) + 1 := rfl
  rw [e, if_neg (by omega), add_3, depN_add ⟨h1, h2, h3, h4, h5, h6, h7, h8, h9, h10, h11⟩ ht 4 p h4 h5]
  have h10' : depN A (4 + 1) p < 4 := h10
  rw [depN_st 4 p (by omega)]; rfl
theorem anc_add (hA : AddOK A r p o k g) (ht : WFt A) (hq : q < 8) (hp : aR A q 0 = 1) : ∀ j, anc (addA A r p o k g) q j = anc A q j
  | 0 => rfl
  | j + 1 => by
    show aR (addA A r p o k g) (anc (addA A r p o k g) q j) 3 = aR A (anc A q j) 3
    rw [anc_add hA ht hq hp j, add_ne (hA.ne (ht.an hq hp j).2.1)]
theorem onb_add (hA : AddOK A r p o k g) (ht : WFt A) (hq : q < 8) (hp : aR A q 0 = 1) {a : Nat} : onb (addA A r p o k g) a q = onb A a q := by
  unfold onb; rw [dep_add hA ht hq hp]
  congr 2
  funext j; rw [anc_add hA ht hq hp]
theorem us_add (hA : AddOK A r p o k g) (ht : WFt A) (hu : WFu A) (htt : t < 10) {a d : Nat} : us (addA A r p o k g) t a d = us A t a d := by
  by_cases ho : aT A t 0 = 1
  · obtain ⟨o1, o2, o3, o4, -⟩ := hu.o htt ho
    have e : onb (addA A r p o k g) a (aT A t 2) = onb A a (aT A t 2) := onb_add hA ht o3 o4
    unfold us
    show ((aT A t 0 == 1) && onb (addA A r p o k g) a (aT A t 2) && (d == 0 || !(aT A t 1 == 0))) = _
    rw [e]
  · unfold us
    show ((aT A t 0 == 1) && onb (addA A r p o k g) a (aT A t 2) && (d == 0 || !(aT A t 1 == 0))) = _
    rw [show (aT A t 0 == 1) = false by simp [ho]]; simp
theorem wN_add (hA : AddOK A r p o k g) (ht : WFt A) (hu : WFu A) (htt : t < 10) (ho : aT A t 0 = 1) {d : Nat} : wN (addA A r p o k g) t d = wN A t d := by
  obtain ⟨o1, o2, o3, o4, -⟩ := hu.o htt ho
  show (if d = 1 ∧ aT A t 1 = 0 then 0 else dep (addA A r p o k g) (aT A t 2)) = _
  rw [dep_add hA ht o3 o4]; rfl
theorem wP_add (hA : AddOK A r p o k g) (ht : WFt A) (hu : WFu A) (htt : t < 10) (ho : aT A t 0 = 1) {d h : Nat} : wP (addA A r p o k g) t d h = wP A t d h := by
  obtain ⟨o1, o2, o3, o4, -⟩ := hu.o htt ho
  show (if d = 0 then anc (addA A r p o k g) (aT A t 2) (dep (addA A r p o k g) (aT A t 2) - 1 - h) else anc (addA A r p o k g) (aT A t 2) h) = _
  rw [dep_add hA ht o3 o4, anc_add hA ht o3 o4, anc_add hA ht o3 o4]; rfl
theorem lgen_add (hA : AddOK A r p o k g) (ht : WFt A) (hq : q < 8) (hp : aR A q 0 = 1) : lgen (addA A r p o k g) q = lgen A q := by
  obtain ⟨b1, b2, -⟩ := ht.par hq hp
  unfold lgen
  rw [add_ne (hA.ne hp), add_ne (hA.ne hp), add_ne (hA.ne b2)]
theorem pool_add (hA : AddOK A r p o k g) (ht : WFt A) (hq : q < 8) (hp : aR A q 0 = 1) {d : Nat} : poolK (addA A r p o k g) q d = poolK A q d := by
  obtain ⟨b1, b2, -⟩ := ht.par hq hp
  unfold poolK
  rw [add_ne (hA.ne hp), add_ne (hA.ne hp), add_ne (hA.ne b2)]
theorem lgen_new (hA : AddOK A r p o k g) : lgen (addA A r p o k g) r = min g (aR A p 2) := by
  unfold lgen
  rw [add_2, add_3, add_ne (hA.ne hA.2.2.2.2.1)]
theorem pool_new (hA : AddOK A r p o k g) {d : Nat} : poolK (addA A r p o k g) r d = if d = 0 then bufK k else bufK (aR A p 1) / portsK (aR A p 1) := by
  unfold poolK
  rw [add_1, add_3, add_ne (hA.ne hA.2.2.2.2.1)]
theorem cap_add (hA : AddOK A r p o k g) (ht : WFt A) (hq : q < 8) (hp : aR A q 0 = 1) {d : Nat} : cap (addA A r p o k g) q d = cap A q d := by
  unfold cap
  rw [lgen_add hA ht hq hp, add_ne (hA.ne hp)]
theorem wft_add (hA : AddOK A r p o k g) (ht : WFt A) : WFt (addA A r p o k g) := by
  obtain ⟨h1, h2, h3, h4, h5, h6, h7, h8, h9, h10, h11⟩ := id hA
  have n0 : ¬ 0 = r := by omega
  have pr : ∀ q, q < 8 → aR (addA A r p o k g) q 0 = 1 → q = r ∨ (¬ q = r ∧ aR A q 0 = 1) := fun q hq z => by
    by_cases y : q = r
    · exact Or.inl y
    · rw [add_ne y] at z; exact Or.inr ⟨y, z⟩
  refine ⟨by rw [add_ne n0, add_ne n0, add_ne n0, add_ne n0, add_ne n0]; exact ht.1, fun q hq => ?_, fun q q1 hq hp => ?_, fun a b a1 a2 b1 b2 ha hb e3 e4 => ?_⟩
  · by_cases y : q = r
    · rw [y, add_0]; omega
    · rw [add_ne y]; exact ht.le1 hq
  · rcases pr q hq hp with rfl | ⟨y, hp'⟩
    · unfold WFr
      rw [add_1, add_2, add_3, add_4, add_ne (hA.ne h5), add_ne (hA.ne h5), dep_new hA ht, dep_add hA ht h4 h5, add_k (by omega), add_k (by omega), add_k (by omega), add_k (by omega), add_k (by omega)]
      exact ⟨h6, h7, h8, h4, h5, rfl, by omega, h9, by omega, by omega, by omega, by omega, fun z => by omega, fun d hd => by rw [add_L, if_pos rfl]; decide⟩
    · obtain ⟨w1, w2, w3, w4, w5, w6, w7, w8, w9, w10, w11, w12, w13, w14⟩ := ht.w q1 hq hp'
      unfold WFr
      rw [add_ne y, add_ne y, add_ne y, add_ne y, add_ne y, add_ne y, add_ne y, add_ne y, add_ne y, add_ne (hA.ne w5), add_ne (hA.ne w5), dep_add hA ht hq hp', dep_add hA ht w4 w5]
      exact ⟨w1, w2, w3, w4, w5, w6, w7, w8, w9, w10, w11, w12, w13, fun d hd => by rw [add_L, if_neg y]; exact w14 d hd⟩
  · rcases pr a a2 ha with ya | ⟨ya, ha'⟩
    · rcases pr b b2 hb with yb | ⟨yb, hb'⟩
      · omega
      · exfalso
        rw [ya, add_3, add_ne yb] at e3
        rw [ya, add_4, add_ne yb] at e4
        exact h11 b b1 b2 hb' ⟨e3.symm, e4.symm⟩
    · rcases pr b b2 hb with yb | ⟨yb, hb'⟩
      · exfalso
        rw [yb, add_3, add_ne ya] at e3
        rw [yb, add_4, add_ne ya] at e4
        exact h11 a a1 a2 ha' ⟨e3, e4⟩
      · rw [add_ne ya, add_ne yb] at e3 e4
        exact ht.2.2.2 a b a1 a2 b1 b2 ha' hb' e3 e4
theorem wfu_add (hA : AddOK A r p o k g) (ht : WFt A) (hu : WFu A) : WFu (addA A r p o k g) := by
  obtain ⟨h1, h2, h3, h4, h5, h6, h7, h8, h9, h10, h11⟩ := id hA
  have rs : ∀ q, rsv (addA A r p o k g) q = rsv A q := fun q => by
    unfold rsv
    exact sumN_congr (fun a ha => by rw [us_add hA ht hu ha]; rfl)
  refine ⟨hu.1, hu.2.1, fun a ha ho => ?_, fun q q1 hq hp => ?_, hu.2.2.2.2⟩
  · obtain ⟨o1, o2, o3, o4, o5, o6⟩ := hu.o ha ho
    have hw := fun d => wN_add (d := d) hA ht hu ha ho
    unfold WFo
    simp only [hw]
    show aT A a 1 ≤ 2 ∧ 1 ≤ aT A a 2 ∧ aT A a 2 < 8 ∧ aR (addA A r p o k g) (aT A a 2) 0 = 1 ∧ aR (addA A r p o k g) (aT A a 2) 1 = aT A a 1 + 1 ∧ _
    rw [add_ne (hA.ne o4), add_ne (hA.ne o4)]
    exact ⟨o1, o2, o3, o4, o5, o6⟩
  · rw [rs]
    by_cases y : q = r
    · have : rsv A q = 0 := by
        unfold rsv
        have z : ∀ a, a < 10 → (if us A a q 0 = true ∧ aT A a 1 = 0 then aT A a 4 else 0) = 0 := fun a ha => by
          rw [if_neg]
          rintro ⟨z1, -⟩
          obtain ⟨-, -, -, -, -, -, -, -, z2⟩ := us_hx ht hu ha (by omega) z1
          rw [y] at z2; exact h3 z2
        have := sumN_congr (g := fun a => if us A a q 0 = true ∧ aT A a 1 = 0 then aT A a 4 else 0) (h := fun _ => 0) (n := 10) z
        rw [this, sumN_const]
      have := cap_le (addA A r p o k g) q 0
      omega
    · rw [add_ne y] at hp
      rw [cap_add hA ht hq hp]
      exact hu.rsv q1 hq hp
end AD
