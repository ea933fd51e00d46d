/-! open: whether it may be -/
section OC
variable {μ μ' : mM} {A B : Ab} {f r k t v w d h q : Nat}
theorem j138 (hk : k ≤ 2) : s138 μ (nI k) = some (nI (k + 1)) := by
  unfold s138
  have : k = 0 ∨ k = 1 ∨ k = 2 := by omega
  rcases this with e | e | e <;> subst e <;> rfl
theorem j139 (hk : k ≤ 2) : s139 μ (nI k) = some (nI (if k = 0 then 2 else 4)) := by
  unfold s139
  have : k = 0 ∨ k = 1 ∨ k = 2 := by omega
  rcases this with e | e | e <;> subst e <;> rfl
theorem j140 (hk : k ≤ 2) : s140 μ (nI k) = some (nI (mostC k)) := by
  unfold s140
  have : k = 0 ∨ k = 1 ∨ k = 2 := by omega
  rcases this with e | e | e <;> subst e <;> rfl
theorem j141 (hk : k ≤ 2) : s141 μ (nI k) = some (nI (leastC k)) := by
  unfold s141
  have : k = 0 ∨ k = 1 ∨ k = 2 := by omega
  rcases this with e | e | e <;> subst e <;> rfl
/-- a hop of the path lacks a number / credits -/
def badN (A : Ab) (k r : Nat) : Prop := numN A r 0 = 16 ∨ (¬ k = 0 ∧ numN A r 1 = 16)
def badC (A : Ab) (k r : Nat) : Prop := free A r 0 < nI (leastC k) ∨ (¬ k = 0 ∧ free A r 1 < nI (leastC k))
theorem j41 (hC : CS μ f A) (ht : WFt A) (hu : WFu A) (hk : k ≤ 2) (hv : v < 8) (hp : aR A v 0 = 1) : (s41 μ f (nI k) (nI v) = some (nI 0) ∧ ∃ i, i < dep A v ∧ badN A k (anc A v i)) ∨ (s41 μ f (nI k) (nI v) = some (nI 1) ∧ ∀ i, i < dep A v → ¬ badN A k (anc A v i)) := by
  have hF := hC.1
  have h4 := ht.dep4 hv hp
  have k0 : ¬ k = 0 → ¬ nI k = 0 := fun z => by rw [L_0, nI_eq (by omega) (by omega)]; exact z
  obtain ⟨o, e2, h3⟩ := mLoop_find (b := s41L4 μ f (nI k)) (fun i => (nI (anc A v i), nI i)) (dep A v) (fun i => badN A k (anc A v i)) (fun i => .inr (nI 0)) (.inl ()) (fun i hi hb => by
    obtain ⟨a1, a2, a3⟩ := ht.an hv hp i
    have h0 : ¬ anc A v i = 0 := fun z => by have := (ht.anc0 hv hp i).mp z; omega
    have e37 := fun d (hd : d < 2) => j37 (d := d) hC ht hu a1 hd
    unfold s41L4
    refine iteF (by show ¬ nI 4 ≤ nI i; rw [nI_leI (by omega) (by omega)]; omega) (iteF (by show ¬ nI (anc A v i) = nI 0; rw [nI_eq (by omega) (by omega)]; exact h0) (iteT (by rw [FabL.s0 hF]) ?_))
    refine bindS (e37 0 (by omega)) ?_
    by_cases z : numN A (anc A v i) 0 = 16
    · rw [if_pos z]; exact iteT rfl rfl
    · rw [if_neg z]
      have nl := numN_le (A := A) (r := anc A v i) (d := 0)
      refine iteF (fun y => (nI_ng (k := 1) (by omega) (by omega) (by omega)).mp y) ?_
      have z2 := hb.resolve_left z
      refine iteF (k0 z2.1) (bindS (e37 1 (by omega)) ?_)
      rw [if_pos z2.2]; exact iteF (by decide) rfl) (fun i hi hb => by
    obtain ⟨a1, a2, a3⟩ := ht.an hv hp i
    have h0 : ¬ anc A v i = 0 := fun z => by have := (ht.anc0 hv hp i).mp z; omega
    have e37 := fun d (hd : d < 2) => j37 (d := d) hC ht hu a1 hd
    have z : ¬ numN A (anc A v i) 0 = 16 := fun z => hb (Or.inl z)
    have nl := numN_le (A := A) (r := anc A v i) (d := 0)
    have nl1 := numN_le (A := A) (r := anc A v i) (d := 1)
    have fin : s41L4_25 μ f (nI k) (nI (anc A v i)) (nI i) = some (.inl (nI (anc A v (i + 1)), nI (i + 1))) := by
      unfold s41L4_25
      refine iteT (by rw [FabL.s0 hF]) (bindS (j18 hF a1) (iteT (by rw [FabL.rs hF a1]) ?_))
      rw [RepC.r3 hC.2 a1 a2, show nI i + 1 = nI (i + 1) from nI_add _ 1]; rfl
    unfold s41L4
    refine iteF (by show ¬ nI 4 ≤ nI i; rw [nI_leI (by omega) (by omega)]; omega) (iteF (by show ¬ nI (anc A v i) = nI 0; rw [nI_eq (by omega) (by omega)]; exact h0) (iteT (by rw [FabL.s0 hF]) ?_))
    refine bindS (e37 0 (by omega)) ?_
    rw [if_neg z]
    refine iteF (fun y => (nI_ng (k := 1) (by omega) (by omega) (by omega)).mp y) ?_
    by_cases zk : k = 0
    · exact iteT (by rw [zk]; rfl) fin
    · refine iteF (k0 zk) (bindS (e37 1 (by omega)) ?_)
      rw [if_neg (fun y => hb (Or.inr ⟨zk, y⟩))]
      exact iteT (fun y => (nI_ng (k := 1) (by omega) (by omega) (by omega)).mp y) fin) (by
    have h0 := (ht.anc0 hv hp (dep A v)).mpr (Nat.le_refl _)
    unfold s41L4
    by_cases z : (4 : Int32) ≤ nI (dep A v)
    · exact iteT z rfl
    · exact iteF z (iteT (by show nI (anc A v (dep A v)) = 0; rw [h0]; rfl) rfl)) (n := 1000) (by omega)
  have e2' : mLoop (s41L4 μ f (nI k)) 1000 (nI v, nI 0) = some o := e2
  rcases h3 with ⟨i, hi, q1, q2, rfl⟩ | ⟨q1, rfl⟩
  · refine Or.inl ⟨?_, i, hi, q1⟩
    unfold s41
    exact bindS e2' rfl
  · refine Or.inr ⟨?_, q1⟩
    unfold s41
    exact bindS e2' rfl
theorem j42 (hC : CS μ f A) (ht : WFt A) (hu : WFu A) (hk : k ≤ 2) (hv : v < 8) (hp : aR A v 0 = 1) : (s42 μ f (nI k) (nI v) = some (nI 0) ∧ ∃ i, i < dep A v ∧ badC A k (anc A v i)) ∨ (s42 μ f (nI k) (nI v) = some (nI 1) ∧ ∀ i, i < dep A v → ¬ badC A k (anc A v i)) := by
  have hF := hC.1
  have h4 := ht.dep4 hv hp
  have k0 : ¬ k = 0 → ¬ nI k = 0 := fun z => by rw [L_0, nI_eq (by omega) (by omega)]; exact z
  have nle : ∀ x y : Int32, ¬ x < y → y ≤ x := fun x y z => by rw [Int32.lt_iff_toInt_lt] at z; rw [Int32.le_iff_toInt_le]; omega
  have nlt : ∀ x y : Int32, x < y → ¬ y ≤ x := fun x y z => by rw [Int32.lt_iff_toInt_lt] at z; rw [Int32.le_iff_toInt_le]; omega
  obtain ⟨o, e2, h3⟩ := mLoop_find (b := s42L7 μ f (nI k) (nI (leastC k))) (fun i => (nI (anc A v i), nI i)) (dep A v) (fun i => badC A k (anc A v i)) (fun i => .inr (nI 0)) (.inl ()) (fun i hi hb => by
    obtain ⟨a1, a2, a3⟩ := ht.an hv hp i
    have h0 : ¬ anc A v i = 0 := fun z => by have := (ht.anc0 hv hp i).mp z; omega
    have e37 := fun d (hd : d < 2) => j36 (d := d) hC ht hu (show 1 ≤ anc A v i by omega) a1 a2 hd
    unfold s42L7
    refine iteF (by show ¬ nI 4 ≤ nI i; rw [nI_leI (by omega) (by omega)]; omega) (iteF (by show ¬ nI (anc A v i) = nI 0; rw [nI_eq (by omega) (by omega)]; exact h0) (iteT (by rw [FabL.s0 hF]) ?_))
    refine bindS (e37 0 (by omega)) ?_
    by_cases z : free A (anc A v i) 0 < nI (leastC k)
    · exact iteT z rfl
    · have z2 := hb.resolve_left z
      exact iteF z (iteF (k0 z2.1) (bindS (e37 1 (by omega)) (iteF (nlt _ _ z2.2) rfl)))) (fun i hi hb => by
    obtain ⟨a1, a2, a3⟩ := ht.an hv hp i
    have h0 : ¬ anc A v i = 0 := fun z => by have := (ht.anc0 hv hp i).mp z; omega
    have e37 := fun d (hd : d < 2) => j36 (d := d) hC ht hu (show 1 ≤ anc A v i by omega) a1 a2 hd
    have z : ¬ free A (anc A v i) 0 < nI (leastC k) := fun z => hb (Or.inl z)
    have fin : s42L7_28 μ f (nI k) (nI (leastC k)) (nI (anc A v i)) (nI i) = some (.inl (nI (anc A v (i + 1)), nI (i + 1))) := by
      unfold s42L7_28
      refine iteT (by rw [FabL.s0 hF]) (bindS (j18 hF a1) (iteT (by rw [FabL.rs hF a1]) ?_))
      rw [RepC.r3 hC.2 a1 a2, show nI i + 1 = nI (i + 1) from nI_add _ 1]; rfl
    unfold s42L7
    refine iteF (by show ¬ nI 4 ≤ nI i; rw [nI_leI (by omega) (by omega)]; omega) (iteF (by show ¬ nI (anc A v i) = nI 0; rw [nI_eq (by omega) (by omega)]; exact h0) (iteT (by rw [FabL.s0 hF]) ?_))
    refine bindS (e37 0 (by omega)) (iteF z ?_)
    by_cases zk : k = 0
    · exact iteT (by rw [zk]; rfl) fin
    · exact iteF (k0 zk) (bindS (e37 1 (by omega)) (iteT (nle _ _ (fun y => hb (Or.inr ⟨zk, y⟩))) fin))) (by
    have h0 := (ht.anc0 hv hp (dep A v)).mpr (Nat.le_refl _)
    unfold s42L7
    by_cases z : (4 : Int32) ≤ nI (dep A v)
    · exact iteT z rfl
    · exact iteF z (iteT (by show nI (anc A v (dep A v)) = 0; rw [h0]; rfl) rfl)) (n := 1000) (by omega)
  have e2' : mLoop (s42L7 μ f (nI k) (nI (leastC k))) 1000 (nI v, nI 0) = some o := e2
  rcases h3 with ⟨i, hi, q1, q2, rfl⟩ | ⟨q1, rfl⟩
  · refine Or.inl ⟨?_, i, hi, q1⟩
    unfold s42
    exact bindS (j141 hk) (bindS e2' rfl)
  · refine Or.inr ⟨?_, q1⟩
    unfold s42
    exact bindS (j141 hk) (bindS e2' rfl)
/-- the reference's look at one link, both directions -/
theorem k197i {m : Nat} (hM : RS μ A) (ht : WFt A) (hu : WFu A) (hk : k ≤ 2) (hm : m ≤ 1) (h1 : 1 ≤ r) (hr : r < 8) (hp : aR A r 0 = 1) : (mLoop (s197L2L6 μ 200 (nI k) (nI m) (nI r)) 1000 (nI 0) = some (.inr (if m = 0 then -nI 6 else -nI 5)) ∧ (if m = 0 then badC A k r else badN A k r)) ∨ (mLoop (s197L2L6 μ 200 (nI k) (nI m) (nI r)) 1000 (nI 0) = some (.inl ()) ∧ ¬ (if m = 0 then badC A k r else badN A k r)) := by
  have hR := hM.1
  have k0 : ¬ k = 0 → ¬ nI k = 0 := fun z => by rw [L_0, nI_eq (by omega) (by omega)]; exact z
  have nle : ∀ x y : Int32, ¬ x < y → y ≤ x := fun x y z => by rw [Int32.lt_iff_toInt_lt] at z; rw [Int32.le_iff_toInt_le]; omega
  have nlt : ∀ x y : Int32, x < y → ¬ y ≤ x := fun x y z => by rw [Int32.lt_iff_toInt_lt] at z; rw [Int32.le_iff_toInt_le]; omega
  have head : ∀ {R i}, s197L2L6_12 μ 200 (nI k) (nI m) (nI r) (nI i) (nI (if k = 0 then 1 else 2)) (nI i) = R → s197L2L6 μ 200 (nI k) (nI m) (nI r) (nI i) = R := fun {R i} hR => by
    unfold s197L2L6
    by_cases z : k = 0
    · rw [if_pos z] at hR
      exact iteF (by rw [z]; decide) hR
    · rw [if_neg z] at hR
      exact iteT (k0 z) hR
  have lack : ∀ i, s197L2L6_38 μ 200 (nI k) (nI m) (nI r) (nI i) 1 = some (.inr (.inr (if m = 0 then -nI 6 else -nI 5))) := fun i => by
    unfold s197L2L6_38
    refine iteF (by decide) ?_
    by_cases z : m = 0
    · rw [if_pos z]; exact iteT (by rw [z]; rfl) rfl
    · rw [if_neg z]; exact iteF (by rw [L_0, nI_eq (by omega) (by omega)]; exact z) rfl
  have fine : ∀ i, s197L2L6_38 μ 200 (nI k) (nI m) (nI r) (nI i) 0 = some (.inl (nI (i + 1))) := fun i => by
    unfold s197L2L6_38
    refine iteT rfl ?_
    rw [show nI i + 1 = nI (i + 1) from nI_add _ 1]
  have body : ∀ {R i} , i < (if k = 0 then 1 else 2) → (((if m = 0 then free A r i < nI (leastC k) else numN A r i = 16) → s197L2L6_38 μ 200 (nI k) (nI m) (nI r) (nI i) 1 = R) ∧ (¬ (if m = 0 then free A r i < nI (leastC k) else numN A r i = 16) → s197L2L6_38 μ 200 (nI k) (nI m) (nI r) (nI i) 0 = R)) → s197L2L6 μ 200 (nI k) (nI m) (nI r) (nI i) = R := fun {R i} hi hb => by
    have hi2 : i < 2 := by split at hi <;> omega
    refine head ?_
    unfold s197L2L6_12
    refine iteF (by rw [nI_leI (by split <;> omega) (by omega)]; omega) ?_
    by_cases z : m = 0
    · rw [if_pos z] at hb
      refine iteT (by rw [z]; rfl) (iteT (by rw [RefL.s hR]) (bindS (k166 hM ht hu h1 hr hp hi2) ?_))
      have l34 : s197L2L6_34 μ 200 (nI k) (nI m) (nI r) (nI i) (nI (leastC k)) (free A r i) = R := by
        unfold s197L2L6_34
        by_cases y : free A r i < nI (leastC k)
        · exact iteF (nlt _ _ y) (hb.1 y)
        · exact iteT (nle _ _ y) (hb.2 y)
      by_cases zk : k = 0
      · refine iteF (by rw [zk]; decide) ?_
        rw [show (4 : Int32) = nI (leastC k) by rw [zk]; rfl]; exact l34
      · refine iteT (k0 zk) ?_
        rw [show (1 : Int32) = nI (leastC k) by unfold leastC; rw [if_neg zk]; rfl]; exact l34
    · rw [if_neg z] at hb
      refine iteF (by rw [L_0, nI_eq (by omega) (by omega)]; exact z) (iteT (by rw [RefL.s hR]) (bindS (k167 hM ht hu h1 hr hp hi2) ?_))
      by_cases y : numN A r i = 16
      · rw [if_pos y]; exact iteF (by decide) (hb.1 y)
      · rw [if_neg y]
        have nl := numN_le (A := A) (r := r) (d := i)
        exact iteT (fun w => (nI_ng (k := 10) (by omega) (by omega) (by omega)).mp w) (hb.2 y)
  obtain ⟨o, e2, h3⟩ := mLoop_find (b := s197L2L6 μ 200 (nI k) (nI m) (nI r)) (fun i => nI i) (if k = 0 then 1 else 2) (fun i => if m = 0 then free A r i < nI (leastC k) else numN A r i = 16) (fun i => .inr (if m = 0 then -nI 6 else -nI 5)) (.inl ()) (fun i hi hb => body hi ⟨fun _ => lack i, fun y => absurd hb y⟩) (fun i hi hb => body hi ⟨fun y => absurd y hb, fun _ => fine i⟩) (head (by
    unfold s197L2L6_12
    exact iteT (by rw [nI_leI (by split <;> omega) (by split <;> omega)]; exact Nat.le_refl _) rfl)) (n := 1000) (by split <;> omega)
  have bad : (if m = 0 then badC A k r else badN A k r) ↔ ∃ i, i < (if k = 0 then 1 else 2) ∧ (if m = 0 then free A r i < nI (leastC k) else numN A r i = 16) := by
    by_cases z : m = 0
    · simp only [if_pos z]
      unfold badC
      constructor
      · rintro (y | ⟨y1, y2⟩)
        · exact ⟨0, by split <;> omega, y⟩
        · exact ⟨1, by rw [if_neg y1]; omega, y2⟩
      · rintro ⟨i, hi, y⟩
        by_cases zk : k = 0
        · rw [if_pos zk] at hi
          have : i = 0 := by omega
          subst this; exact Or.inl y
        · rw [if_neg zk] at hi
          have : i = 0 ∨ i = 1 := by omega
          rcases this with e | e <;> subst e
          · exact Or.inl y
          · exact Or.inr ⟨zk, y⟩
    · simp only [if_neg z]
      unfold badN
      constructor
      · rintro (y | ⟨y1, y2⟩)
        · exact ⟨0, by split <;> omega, y⟩
        · exact ⟨1, by rw [if_neg y1]; omega, y2⟩
      · rintro ⟨i, hi, y⟩
        by_cases zk : k = 0
        · rw [if_pos zk] at hi
          have : i = 0 := by omega
          subst this; exact Or.inl y
        · rw [if_neg zk] at hi
          have : i = 0 ∨ i = 1 := by omega
          rcases this with e | e <;> subst e
          · exact Or.inl y
          · exact Or.inr ⟨zk, y⟩
  rcases h3 with ⟨i, hi, q1, q2, rfl⟩ | ⟨q1, rfl⟩
  · exact Or.inl ⟨e2, bad.mpr ⟨i, hi, q1⟩⟩
  · exact Or.inr ⟨e2, fun y => by obtain ⟨i, hi, y2⟩ := bad.mp y; exact q1 i hi y2⟩
theorem k197 {m : Nat} (hM : RS μ A) (ht : WFt A) (hu : WFu A) (hk : k ≤ 2) (hm : m ≤ 1) (hv : v < 8) (hp : aR A v 0 = 1) : (s197 μ 200 (nI k) (nI v) (nI m) = some (if m = 0 then -nI 6 else -nI 5) ∧ ∃ i, i < dep A v ∧ (if m = 0 then badC A k (anc A v i) else badN A k (anc A v i))) ∨ (s197 μ 200 (nI k) (nI v) (nI m) = some (nI 0) ∧ ∀ i, i < dep A v → ¬ (if m = 0 then badC A k (anc A v i) else badN A k (anc A v i))) := by
  have hR := hM.1
  have h4 := ht.dep4 hv hp
  have aux : ∀ i, i < dep A v → ((if m = 0 then badC A k (anc A v i) else badN A k (anc A v i)) → s197L2 μ 200 (nI k) (nI m) (nI (anc A v i)) = some (.inr (.inr (if m = 0 then -nI 6 else -nI 5)))) ∧ (¬ (if m = 0 then badC A k (anc A v i) else badN A k (anc A v i)) → s197L2 μ 200 (nI k) (nI m) (nI (anc A v i)) = some (.inl (nI (anc A v (i + 1))))) := fun i hi => by
    obtain ⟨a1, a2, a3⟩ := ht.an hv hp i
    have h0 : ¬ anc A v i = 0 := fun z => by have := (ht.anc0 hv hp i).mp z; omega
    have hn : ¬ nI (anc A v i) ≤ 0 := by rw [L_0, nI_leI (by omega) (by omega)]; omega
    rcases k197i hM ht hu hk hm (show 1 ≤ anc A v i by omega) a1 a2 with ⟨e1, e2⟩ | ⟨e1, e2⟩
    · refine ⟨fun _ => ?_, fun y => absurd e2 y⟩
      unfold s197L2
      exact iteF hn (bindS e1 rfl)
    · refine ⟨fun y => absurd y e2, fun _ => ?_⟩
      unfold s197L2
      refine iteF hn (bindS e1 ?_)
      show (if (mS μ 200).1 = 9 then (s148 μ 200 (nI (anc A v i)) 3).bind fun q20 => some (Sum.inl q20) else none) = _
      exact iteT (by rw [RefL.s hR]) (bindS (k148 hM a1 (k := 3) (by omega)) rfl)
  obtain ⟨o, e2, h3⟩ := mLoop_find (b := s197L2 μ 200 (nI k) (nI m)) (fun i => nI (anc A v i)) (dep A v) (fun i => if m = 0 then badC A k (anc A v i) else badN A k (anc A v i)) (fun i => .inr (if m = 0 then -nI 6 else -nI 5)) (.inl ()) (fun i hi hb => (aux i hi).1 hb) (fun i hi hb => (aux i hi).2 hb) (by
    have h0 := (ht.anc0 hv hp (dep A v)).mpr (Nat.le_refl _)
    rw [h0]
    unfold s197L2
    exact iteT (by decide) rfl) (n := 1000) (by omega)
  have e2' : mLoop (s197L2 μ 200 (nI k) (nI m)) 1000 (nI v) = some o := e2
  rcases h3 with ⟨i, hi, q1, q2, rfl⟩ | ⟨q1, rfl⟩
  · refine Or.inl ⟨?_, i, hi, q1⟩
    unfold s197
    exact bindS e2' rfl
  · refine Or.inr ⟨?_, q1⟩
    unfold s197
    exact bindS e2' rfl
end OC
