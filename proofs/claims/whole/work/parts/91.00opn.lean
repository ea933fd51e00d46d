/-! open: the abstract state -/
section OP
variable {μ μ' : mM} {A B : Ab} {f r k t v w d h q : Nat}
/-- a link roused -/
def rs1 (B : Ab) (a : Nat) : Ab := if aR B a 6 = 2 then setR (setR B a 6 3) a 8 2 else if aR B a 6 = 1 then setR B a 6 0 else B
def rzA (A : Ab) (v : Nat) : Nat → Ab
  | 0 => A
  | j + 1 => rs1 (rzA A v j) (anc A v j)
theorem rs1_eq {a : Nat} : (rs1 B a).2 = B.2 ∧ (∀ x b, (¬ x = a ∨ (¬ b = 6 ∧ ¬ b = 8)) → aR (rs1 B a) x b = aR B x b) ∧ (aR (rs1 B a) a 6 ≤ 3 ∨ aR (rs1 B a) a 6 = aR B a 6) ∧ (aR (rs1 B a) a 6 = 3 → (aR B a 6 = 3 ∧ aR (rs1 B a) a 8 = aR B a 8) ∨ aR (rs1 B a) a 8 = 2) := by
  unfold rs1
  by_cases e : aR B a 6 = 2
  · rw [if_pos e]
    refine ⟨rfl, fun x b h => ?_, Or.inl ?_, fun _ => Or.inr ?_⟩
    · rw [aR_setR, if_neg (by omega), aR_setR, if_neg (by omega)]
    · rw [aR_setR, if_neg (by omega), aR_setR, if_pos ⟨rfl, rfl⟩]; omega
    · rw [aR_setR, if_pos ⟨rfl, rfl⟩]
  · rw [if_neg e]
    by_cases e2 : aR B a 6 = 1
    · rw [if_pos e2]
      refine ⟨rfl, fun x b h => ?_, Or.inl ?_, fun z => ?_⟩
      · rw [aR_setR, if_neg (by omega)]
      · rw [aR_setR, if_pos ⟨rfl, rfl⟩]; omega
      · rw [aR_setR, if_pos ⟨rfl, rfl⟩] at z; omega
    · rw [if_neg e2]
      exact ⟨rfl, fun _ _ _ => rfl, Or.inr rfl, fun z => Or.inl ⟨z, rfl⟩⟩
theorem rzA_eq : ∀ j, (rzA A v j).2 = A.2 ∧ ∀ x b, ¬ b = 6 → ¬ b = 8 → aR (rzA A v j) x b = aR A x b
  | 0 => ⟨rfl, fun _ _ _ _ => rfl⟩
  | j + 1 => by
    obtain ⟨h1, h2⟩ := rzA_eq j
    obtain ⟨g1, g2, -⟩ := rs1_eq (B := rzA A v j) (a := anc A v j)
    exact ⟨g1.trans h1, fun x b h6 h8 => (g2 x b (Or.inr ⟨h6, h8⟩)).trans (h2 x b h6 h8)⟩
theorem rs1_wft (ht : WFt B) {a : Nat} : WFt (rs1 B a) := by
  obtain ⟨g1, g2, g3, g4⟩ := rs1_eq (B := B) (a := a)
  refine ht.cgR (fun x b hb => g2 x b (Or.inr ⟨by omega, by omega⟩)) (fun x x1 x2 hp => ?_)
  obtain ⟨-, -, -, -, -, -, -, -, w9, w10, w11, w12, w13, w14⟩ := ht.w x1 x2 hp
  have eL : ∀ d, aL (rs1 B a) x d = aL B x d := fun d => congrArg (fun z => z.2.2.2 x d) g1
  rw [g2 x 5 (Or.inr ⟨by omega, by omega⟩), g2 x 9 (Or.inr ⟨by omega, by omega⟩), g2 x 10 (Or.inr ⟨by omega, by omega⟩)]
  refine ⟨w9, ?_, w11, w12, fun z => ?_, fun d hd => by rw [eL]; exact w14 d hd⟩
  · by_cases y : x = a
    · subst y; rcases g3 with g3 | g3 <;> omega
    · rw [g2 x 6 (Or.inl y)]; exact w10
  · by_cases y : x = a
    · subst y
      rcases g4 z with ⟨z1, z2⟩ | z2
      · rw [z2]; exact w13 z1
      · rw [z2]; omega
    · rw [g2 x 6 (Or.inl y)] at z
      rw [g2 x 8 (Or.inl y)]; exact w13 z
theorem rzA_wft (ht : WFt A) : ∀ j, WFt (rzA A v j)
  | 0 => ht
  | j + 1 => rs1_wft (rzA_wft ht j)
theorem cg_wfu (hu : WFu A) (h2 : B.2 = A.2) (hR : ∀ x b, b ≤ 5 → aR B x b = aR A x b) : WFu B := by
  refine wfu_cgR hu (fun x b hb => hR x b (by omega)) (by rw [h2]) (by rw [h2]) ?_ (fun x x1 x2 hp => ?_)
  · have : aC B 3 = aC A 3 := congrArg (fun z => z.2.2.1 3) h2
    rw [this]; exact hu.2.1
  · rw [cap_cg (A := A) (fun y => hR y 3 (by omega)) (fun y => hR y 2 (by omega)) (hR x 5 (by omega))]
    exact hu.rsv x1 x2 hp
theorem rzA_wfu (hu : WFu A) (j : Nat) : WFu (rzA A v j) := cg_wfu hu (rzA_eq j).1 (fun x b hb => (rzA_eq j).2 x b (by omega) (by omega))
/-- a tunnel put in -/
def ins (B : Ab) (t : Nat) (row : Nat → Nat) (W0 : Nat → Nat → Nat → Nat) : Ab := (B.1, (fun a b => if a = t then row b else B.2.1 a b), (fun a d h j => if a = t then W0 d h j else B.2.2.1 a d h j), (fun c => if c = 4 then B.2.2.2.1 4 + 1 else B.2.2.2.1 c), B.2.2.2.2)
theorem rs1_ins {a : Nat} {row : Nat → Nat} {W0 : Nat → Nat → Nat → Nat} : rs1 (ins B t row W0) a = ins (rs1 B a) t row W0 := by
  unfold rs1
  show (if aR B a 6 = 2 then _ else if aR B a 6 = 1 then _ else _) = _
  by_cases e : aR B a 6 = 2
  · rw [if_pos e, if_pos e]; rfl
  · rw [if_neg e, if_neg e]
    by_cases e2 : aR B a 6 = 1
    · rw [if_pos e2, if_pos e2]; rfl
    · rw [if_neg e2, if_neg e2]
theorem rzA_ins {row : Nat → Nat} {W0 : Nat → Nat → Nat → Nat} : ∀ j, rzA (ins A t row W0) v j = ins (rzA A v j) t row W0
  | 0 => rfl
  | j + 1 => by
    show rs1 (rzA (ins A t row W0) v j) (anc (ins A t row W0) v j) = ins (rs1 (rzA A v j) (anc A v j)) t row W0
    rw [rzA_ins j, anc_cg (A := A) (A' := ins A t row W0) (fun _ => rfl), rs1_ins]
/-- the router whose link is a hop -/
def hopR (A : Ab) (v d h : Nat) : Nat := if d = 0 then anc A v (dep A v - 1 - h) else anc A v h
def mostC (k : Nat) : Nat := if k = 0 then 4 else if k = 1 then 6 else 3
def leastC (k : Nat) : Nat := if k = 0 then 4 else 1
/-- the credits that it takes -/
def crN (k : Nat) (x : Int32) : Nat := Int32.toNatClampNeg (mMin (nI (mostC k)) x)
theorem crN_ok {x : Int32} (h : ¬ x < nI (leastC k)) : mMin (nI (mostC k)) x = nI (crN k x) ∧ 1 ≤ crN k x ∧ crN k x ≤ 6 ∧ (k = 0 → crN k x = 4) := by
  have hm : mostC k ≤ 6 ∧ 3 ≤ mostC k ∧ (k = 0 → mostC k = 4) ∧ 1 ≤ leastC k ∧ leastC k ≤ mostC k ∧ (k = 0 → leastC k = 4) := by
    unfold mostC leastC
    by_cases z : k = 0
    · rw [if_pos z, if_pos z]; omega
    · rw [if_neg z, if_neg z]
      by_cases z2 : k = 1
      · rw [if_pos z2]; omega
      · rw [if_neg z2]; omega
  have h' : leastC k ≤ x.toInt := by
    rw [Int32.lt_iff_toInt_lt, nI_toInt (by omega)] at h; omega
  have key : ∃ c, mMin (nI (mostC k)) x = nI c ∧ leastC k ≤ c ∧ c ≤ mostC k := by
    unfold mMin
    by_cases z : x < nI (mostC k)
    · rw [if_pos z]
      rcases rng x (leastC k) (mostC k) (by omega) (by omega) with ⟨c, c1, c2, c3⟩ | hx
      · exact ⟨c, c3, c1, c2⟩
      · exfalso
        rcases hx with hx | hx
        · exact h hx
        · rw [Int32.lt_iff_toInt_lt] at z hx; omega
    · rw [if_neg z]; exact ⟨_, rfl, hm.2.2.2.2.1, Nat.le_refl _⟩
  obtain ⟨c, e1, e2, e3⟩ := key
  have ec : crN k x = c := by unfold crN; rw [e1, m_cl (by omega)]
  rw [ec]
  exact ⟨e1, by omega, by omega, fun z => by have := hm.2.2.1 z; have := hm.2.2.2.2.2 z; omega⟩
/-- its hops -/
def opW (A : Ab) (k v : Nat) (d h j : Nat) : Nat := if d = 1 ∧ k = 0 then 0 else if h < dep A v then (if j = 0 then numN A (hopR A v d h) d else if j = 1 then crN k (free A (hopR A v d h) d) else 0) else 0
def opT (A : Ab) (k v w : Nat) (b : Nat) : Nat := if b = 0 then 1 else if b = 1 then k else if b = 2 then v else if b = 3 then w else if b = 4 then (if k = 0 then min w (rmK A v (dep A v)) else 0) else aC A 4
/-- hop numbers and credits suffice -/
def hopOK (A : Ab) (k r d : Nat) : Prop := ¬ numN A r d = 16 ∧ ¬ free A r d < nI (leastC k)
def OpOK (A : Ab) (t k v w : Nat) : Prop := t < 10 ∧ aT A t 0 = 0 ∧ k ≤ 2 ∧ v < 8 ∧ aR A v 0 = 1 ∧ aR A v 1 = k + 1 ∧ 1 ≤ w ∧ w ≤ 12 ∧ opN A k < (if k = 0 then 2 else 4) ∧ (∀ i d, i < dep A v → d < 2 → ¬ (d = 1 ∧ k = 0) → hopOK A k (anc A v i) d)
theorem OpOK.dev (h : OpOK A t k v w) (ht : WFt A) : 1 ≤ v ∧ 1 ≤ dep A v ∧ dep A v ≤ 4 := by
  obtain ⟨h1, h2, h3, h4, h5, h6, -⟩ := h
  have z : ¬ v = 0 := fun z => by rw [z, ht.k0] at h6; omega
  have := ht.dep0 h4 h5
  have := ht.dep4 h4 h5
  omega
theorem OpOK.hop (hO : OpOK A t k v w) (hd : d < 2) (hu : ¬ (d = 1 ∧ k = 0)) (hh : h < dep A v) : hopOK A k (hopR A v d h) d := by
  unfold hopR
  split
  · exact hO.2.2.2.2.2.2.2.2.2 _ d (by omega) hd hu
  · exact hO.2.2.2.2.2.2.2.2.2 _ d hh hd hu
theorem ins_T {row : Nat → Nat} {W0 : Nat → Nat → Nat → Nat} {a b : Nat} : aT (ins B t row W0) a b = if a = t then row b else aT B a b := rfl
theorem ins_W {row : Nat → Nat} {W0 : Nat → Nat → Nat → Nat} {a d h j : Nat} : aW (ins B t row W0) a d h j = if a = t then W0 d h j else aW B a d h j := rfl
theorem wfu_ins (hO : OpOK A t k v w) (ht : WFt A) (hu : WFu A) : WFu (ins A t (opT A k v w) (opW A k v)) := by
  obtain ⟨v1, d1, d4⟩ := hO.dev ht
  obtain ⟨h1, h2, h3, h4, h5, h6, h7, h8, h9, h10⟩ := id hO
  have gne : ∀ a b, ¬ a = t → aT (ins A t (opT A k v w) (opW A k v)) a b = aT A a b := fun a b y => by rw [ins_T, if_neg y]
  have gt : ∀ b, aT (ins A t (opT A k v w) (opW A k v)) t b = opT A k v w b := fun b => by rw [ins_T, if_pos rfl]
  have t0 : opT A k v w 0 = 1 := rfl
  have t1 : opT A k v w 1 = k := rfl
  have t2 : opT A k v w 2 = v := rfl
  have t3 : opT A k v w 3 = w := rfl
  have t4 : opT A k v w 4 = (if k = 0 then min w (rmK A v (dep A v)) else 0) := rfl
  have dI : ∀ x, dep (ins A t (opT A k v w) (opW A k v)) x = dep A x := fun x => dep_cg (fun _ => rfl)
  have oI : ∀ x y, onb (ins A t (opT A k v w) (opW A k v)) x y = onb A x y := fun x y => onb_cg (fun _ => rfl)
  have wne : ∀ a d, ¬ a = t → wN (ins A t (opT A k v w) (opW A k v)) a d = wN A a d := fun a d y => wN_cg (fun _ => rfl) (gne a 1 y) (gne a 2 y)
  have wt : ∀ d, wN (ins A t (opT A k v w) (opW A k v)) t d = if d = 1 ∧ k = 0 then 0 else dep A v := fun d => by
    unfold wN; rw [gt, gt, t1, t2, dI]
  refine ⟨fun a ha => ?_, hu.2.1, fun a ha ho => ?_, fun x x1 x2 hp => ?_, fun j hj => ?_⟩
  · by_cases y : a = t
    · rw [y, gt, t0]; omega
    · rw [gne a 0 y]; exact hu.le1 ha
  · by_cases y : a = t
    · subst y
      unfold WFo
      simp only [gt, t1, t2, t3, t4, wt]
      refine ⟨h3, v1, h4, h5, h6, h7, h8, ?_, fun d hd => ⟨?_, fun h hh => ?_⟩, fun d h hd hh => ?_, fun d h j hd hh hj hn => ?_, fun z => ?_⟩
      · split <;> omega
      · rw [ins_W, if_pos rfl]; unfold opW
        split
        · omega
        · rw [if_neg (by omega)]; omega
      · simp only [ins_W, if_true]
        unfold opW
        by_cases z : d = 1 ∧ k = 0
        · simp only [z, and_self, if_true]; omega
        · simp only [z, if_false]
          by_cases z2 : h < dep A v
          · simp only [z2, if_true]
            obtain ⟨n1, n2⟩ := hO.hop hd z z2
            obtain ⟨c1, c2, c3, c4⟩ := crN_ok n2
            have nl := numN_le (A := A) (r := hopR A v d h) (d := d)
            simp only [show ¬ (2 : Nat) = 0 by omega, show ¬ (2 : Nat) = 1 by omega, show ¬ (1 : Nat) = 0 by omega, if_false, if_true]
            omega
          · simp only [z2, if_false]; omega
      · rw [ins_W, if_pos rfl]
        by_cases z : d = 1 ∧ k = 0
        · rw [if_pos z] at hh; omega
        · rw [if_neg z] at hh
          unfold opW
          rw [if_neg z, if_pos hh, if_pos rfl]
          exact numN_le.1
      · rw [ins_W, if_pos rfl]
        unfold opW
        by_cases z : d = 1 ∧ k = 0
        · rw [if_pos z]
        · rw [if_neg z] at hn
          rw [if_neg z, if_neg (by omega)]
      · rw [ins_W, if_pos rfl, ins_W, if_pos rfl]
        unfold opW
        rw [if_pos ⟨rfl, z⟩, if_pos ⟨rfl, z⟩]; exact ⟨rfl, rfl⟩
    · rw [gne a 0 y] at ho
      have := hu.o ha ho
      unfold WFo at *
      simp only [gne a _ y, wne a _ y, ins_W, if_neg y]
      exact this
  · have hv := hu.rsv x1 x2 hp
    rw [cap_cg (A := A) (A' := ins A t (opT A k v w) (opW A k v)) (fun _ => rfl) (fun _ => rfl) rfl]
    have usne : ∀ a, ¬ a = t → us (ins A t (opT A k v w) (opW A k v)) a x 0 = us A a x 0 := fun a y => us_cg (fun _ => rfl) (gne a 0 y) (gne a 1 y) (gne a 2 y)
    have e := sumN_one (g := fun a => if us A a x 0 = true ∧ aT A a 1 = 0 then aT A a 4 else 0) (g' := fun a => if us (ins A t (opT A k v w) (opW A k v)) a x 0 = true ∧ aT (ins A t (opT A k v w) (opW A k v)) a 1 = 0 then aT (ins A t (opT A k v w) (opW A k v)) a 4 else 0) (t := t) (n := 10) h1 (fun i hi hn => by
      show (if us (ins A t (opT A k v w) (opW A k v)) i x 0 = true ∧ aT (ins A t (opT A k v w) (opW A k v)) i 1 = 0 then aT (ins A t (opT A k v w) (opW A k v)) i 4 else 0) = _
      rw [usne i hn, gne i 1 hn, gne i 4 hn])
    have e' : rsv (ins A t (opT A k v w) (opW A k v)) x + (if us A t x 0 = true ∧ aT A t 1 = 0 then aT A t 4 else 0) = rsv A x + (if us (ins A t (opT A k v w) (opW A k v)) t x 0 = true ∧ aT (ins A t (opT A k v w) (opW A k v)) t 1 = 0 then aT (ins A t (opT A k v w) (opW A k v)) t 4 else 0) := e
    rw [gt, gt, t1, t4] at e'
    by_cases z : us (ins A t (opT A k v w) (opW A k v)) t x 0 = true ∧ k = 0
    · rw [if_pos z, if_pos z.2] at e'
      obtain ⟨z1, z2⟩ := z
      obtain ⟨-, y2, -⟩ := us_iff.mp z1
      rw [gt, t2, oI] at y2
      obtain ⟨a1, a2, a3, a4, a5, a6⟩ := ht.on h4 h5 y2
      have := rmK_spr (A := A) (d := v) (n := dep A v - dep A x) (m := dep A v) (by omega)
      rw [a6] at this
      omega
    · rw [if_neg z] at e'
      omega
  · have e := sumN_one (g := fun a => if aT A a 0 = 1 ∧ aT A a 1 = j then 1 else 0) (g' := fun a => if aT (ins A t (opT A k v w) (opW A k v)) a 0 = 1 ∧ aT (ins A t (opT A k v w) (opW A k v)) a 1 = j then 1 else 0) (t := t) (n := 10) h1 (fun i hi hn => by
      show (if aT (ins A t (opT A k v w) (opW A k v)) i 0 = 1 ∧ aT (ins A t (opT A k v w) (opW A k v)) i 1 = j then 1 else 0) = _
      rw [gne i 0 hn, gne i 1 hn])
    have e' : opN (ins A t (opT A k v w) (opW A k v)) j + (if aT A t 0 = 1 ∧ aT A t 1 = j then 1 else 0) = opN A j + (if aT (ins A t (opT A k v w) (opW A k v)) t 0 = 1 ∧ aT (ins A t (opT A k v w) (opW A k v)) t 1 = j then 1 else 0) := e
    rw [gt, gt, t0, t1, if_neg (show ¬ (aT A t 0 = 1 ∧ aT A t 1 = j) from fun y => by omega)] at e'
    have hb := hu.bay hj
    by_cases z : k = j
    · subst z
      rw [if_pos ⟨rfl, rfl⟩] at e'
      generalize (if k = 0 then 2 else 4) = bays at *
      omega
    · rw [if_neg (fun y => z y.2)] at e'
      omega
/-- a closed tunnel's hops don't count -/
theorem num_cg (h1 : B.1 = A.1) (h2 : B.2.1 = A.2.1) (hW : ∀ a, ¬ a = t → ∀ d h j, aW B a d h j = aW A a d h j) (h0 : ¬ aT A t 0 = 1) : numN B r d = numN A r d ∧ free B r d = free A r d := by
  have p3 : ∀ x k, aR B x k = aR A x k := fun x k => by show B.1 x k = _; rw [h1]
  have t0 : ∀ a k, aT B a k = aT A a k := fun a k => by show B.2.1 a k = _; rw [h2]
  have us0 : ∀ a, us B a r d = us A a r d := fun a => us_cg (fun x => p3 x 3) (t0 a 0) (t0 a 1) (t0 a 2)
  have hx0 : ∀ a, hx B a r d = hx A a r d := fun a => by unfold hx; rw [t0, dep_cg (fun x => p3 x 3), dep_cg (fun x => p3 x 3)]
  have ut : us A t r d = false := by
    cases e : us A t r d
    · rfl
    · exact absurd (us_iff.mp e).1 h0
  have tk0 : ∀ n, tk B r d n = tk A r d n := fun n => by
    have : ∀ a, (us B a r d && (aW B a d (hx B a r d) 0 == n)) = (us A a r d && (aW A a d (hx A a r d) 0 == n)) := fun a => by
      rw [us0, hx0]
      by_cases y : a = t
      · rw [y, ut]; rfl
      · rw [hW a y]
    unfold tk; simp only [this]
  refine ⟨by unfold numN; simp only [tk0], ?_⟩
  unfold free
  rw [poolK_cg (fun x => p3 x 3) (fun x => p3 x 1)]
  exact rp_congr (fun a ha x => by
    rw [us0, hx0]
    by_cases y : a = t
    · rw [y, ut]; simp
    · rw [hW a y])
theorem wfu_cl (hu : WFu A) (h1 : B.1 = A.1) (h2 : B.2.1 = A.2.1) (h3 : aC B 3 = aC A 3) (hW : ∀ a, ¬ a = t → ∀ d h j, aW B a d h j = aW A a d h j) (h0 : ¬ aT A t 0 = 1) : WFu B := by
  refine wfu_w hu h1 h2 (by rw [h3]; exact hu.2.1) (fun a ha ho => ?_)
  have y : ¬ a = t := fun y => h0 (by rw [← y]; exact ho)
  obtain ⟨-, -, -, -, -, -, -, -, o9⟩ := hu.o ha ho
  simp only [hW a y]
  exact o9
end OP
