/-! the start: the two objects are made; the invariant holds -/
section UC
variable {μ ν : mM} {L : Nat} {xs : Nat → Int32} {q k j r d t : Nat}
theorem Ext_rC (hN : mNx μ = 201) : Ext 200 μ (rC18 μ) := by
  have e1 : Ext 200 μ (rC1 μ) := Ext_fld (by omega) 0 10 433
  have e2 : Ext 200 μ (rC2 μ) := e1.trans (Ext_fld (μ := rC1 μ) (a := 200) (by rw [nC1 hN]; omega) 1 11 16) (Nat.le_refl _)
  have e3 : Ext 200 μ (rC3 μ) := e2.trans (Ext_fld (μ := rC2 μ) (a := 200) (by rw [nC2 hN]; omega) 2 10 866) (Nat.le_refl _)
  have e4 : Ext 200 μ (rC4 μ) := e3.trans (Ext_fld (μ := rC3 μ) (a := 200) (by rw [nC3 hN]; omega) 3 11 32) (Nat.le_refl _)
  have e5 : Ext 200 μ (rC5 μ) := e4.trans (Ext_fld (μ := rC4 μ) (a := 200) (by rw [nC4 hN]; omega) 4 12 2) (Nat.le_refl _)
  have e6 : Ext 200 μ (rC6 μ) := e5.trans (Ext_fld (μ := rC5 μ) (a := 200) (by rw [nC5 hN]; omega) 5 10 60) (Nat.le_refl _)
  have e7 : Ext 200 μ (rC7 μ) := e6.trans (Ext_fld (μ := rC6 μ) (a := 200) (by rw [nC6 hN]; omega) 7 10 8) (Nat.le_refl _)
  have e8 : Ext 200 μ (rC8 μ) := e7.trans (Ext_fld (μ := rC7 μ) (a := 200) (by rw [nC7 hN]; omega) 8 10 8) (Nat.le_refl _)
  have e9 : Ext 200 μ (rC9 μ) := e8.trans (Ext_fld (μ := rC8 μ) (a := 200) (by rw [nC8 hN]; omega) 9 10 8) (Nat.le_refl _)
  have e10 : Ext 200 μ (rC10 μ) := e9.trans (Ext_fld (μ := rC9 μ) (a := 200) (by rw [nC9 hN]; omega) 10 10 8) (Nat.le_refl _)
  have e11 : Ext 200 μ (rC11 μ) := e10.trans (Ext_fld (μ := rC10 μ) (a := 200) (by rw [nC10 hN]; omega) 12 10 6) (Nat.le_refl _)
  have e12 : Ext 200 μ (rC12 μ) := e11.trans (Ext_fld (μ := rC11 μ) (a := 200) (by rw [nC11 hN]; omega) 13 10 6) (Nat.le_refl _)
  have e13 : Ext 200 μ (rC13 μ) := e12.trans (Ext_fld (μ := rC12 μ) (a := 200) (by rw [nC12 hN]; omega) 14 10 80) (Nat.le_refl _)
  have e14 : Ext 200 μ (rC14 μ) := e13.trans (Ext_fld (μ := rC13 μ) (a := 200) (by rw [nC13 hN]; omega) 15 10 16) (Nat.le_refl _)
  have e15 : Ext 200 μ (rC15 μ) := e14.trans (Ext_fld (μ := rC14 μ) (a := 200) (by rw [nC14 hN]; omega) 16 11 8) (Nat.le_refl _)
  have e16 : Ext 200 μ (rC16 μ) := e15.trans (Ext_fld (μ := rC15 μ) (a := 200) (by rw [nC15 hN]; omega) 17 11 10) (Nat.le_refl _)
  have e17 : Ext 200 μ (rC17 μ) := e16.trans (Ext_fld (μ := rC16 μ) (a := 200) (by rw [nC16 hN]; omega) 18 12 10) (Nat.le_refl _)
  have e18 : Ext 200 μ (rC18 μ) := e17.trans (Ext_fld (μ := rC17 μ) (a := 200) (by rw [nC17 hN]; omega) 19 10 10) (Nat.le_refl _)
  exact e18
theorem mSl_rC : mSl (rCe μ) = mSl μ + 433 + 16 + 866 + 32 + 2 + 60 + 8 + 8 + 8 + 8 + 6 + 6 + 80 + 16 + 8 + 10 + 10 + 10 := rfl
theorem mI_rCe : mI (rCe μ) q j = if q = 201 ∧ j = 431 then 3 else if q = 201 ∧ j = 2 then 3 else if q = 201 ∧ j = 1 then 4 else if q = 201 ∧ j = 0 then 1 else mI (rC18 μ) q j := by rw [rCe, mI_UI, mI_UI, mI_UI, mI_UI]
theorem mS_rCe : mS (rCe μ) = mS (rC18 μ) := by rw [rCe, mS_UI, mS_UI, mS_UI, mS_UI]
theorem mP_rCe : mP (rCe μ) = mP (rC18 μ) := by rw [rCe, mP_UI, mP_UI, mP_UI, mP_UI]
theorem mF_rCe : mF (rCe μ) = mF (rC18 μ) := by rw [rCe, mF_UI, mF_UI, mF_UI, mF_UI]
theorem mNx_rCe : mNx (rCe μ) = mNx (rC18 μ) := by rw [rCe, mNx_UI, mNx_UI, mNx_UI, mNx_UI]
/-- the abstract state of a new object -/
def A0 : Ab := (fun r k => if r = 0 then (if k = 0 then 1 else if k = 1 then 4 else if k = 2 then 3 else 0) else 0, fun _ _ => 0, fun _ _ _ _ => 0, fun k => if k = 3 then 3 else 0, fun _ _ => 0)
theorem A0_0 (h : aR A0 r 0 = 1) : r = 0 := by
  by_cases e : r = 0
  · exact e
  · exfalso
    have : (if r = 0 then 1 else 0) = 1 := h
    rw [if_neg e] at this
    omega
theorem A0_9 (h : 3 ≤ k) : aR A0 r k = 0 := by
  show (if r = 0 then (if k = 0 then 1 else if k = 1 then 4 else if k = 2 then 3 else 0) else 0) = 0
  rw [if_neg (show ¬ k = 0 by omega), if_neg (show ¬ k = 1 by omega), if_neg (show ¬ k = 2 by omega)]
  split <;> rfl
theorem A0_r (h : ¬ r = 0) : aR A0 r k = 0 := by
  show (if r = 0 then _ else 0) = 0
  rw [if_neg h]
theorem A0_t : aT A0 t k = 0 := rfl
theorem A0_n {P : Prop} (h : aT A0 t 0 = 1) : P := by
  exfalso
  have : (0 : Nat) = 1 := h
  omega
theorem A0_wft : WFt A0 := by
  refine ⟨⟨rfl, rfl, rfl, rfl, rfl⟩, fun r hr => ?_, fun r h1 hr hp => ?_, fun r q h1 hr q1 hq hp _ _ _ => ?_⟩
  · by_cases e : r = 0
    · subst e; exact Nat.le_refl 1
    · rw [A0_r e]; omega
  · have := A0_0 hp; omega
  · have := A0_0 hp; omega
theorem A0_op : ∀ n, sumN (fun t => if aT A0 t 0 = 1 ∧ aT A0 t 1 = k then 1 else 0) n = 0
  | 0 => rfl
  | n + 1 => by
    show sumN _ n + (if aT A0 n 0 = 1 ∧ aT A0 n 1 = k then 1 else 0) = 0
    rw [A0_op n, if_neg (fun z => A0_n z.1)]
theorem A0_wfu : WFu A0 := by
  refine ⟨fun t _ => Nat.zero_le _, ⟨?_, ?_⟩, fun t _ ho => A0_n ho, fun r h1 hr hp => ?_, fun k hk => ?_⟩
  · show (3 : Nat) ≤ 9; omega
  · show 1 ≤ (3 : Nat); omega
  · have := A0_0 hp; omega
  · unfold opN
    rw [A0_op 10]; exact Nat.zero_le _
theorem A0_RepM {I : Nat → Int32} {F : Nat → UInt32} (hI : ∀ j, I j = if j = 431 then 3 else if j = 2 then 3 else if j = 1 then 4 else if j = 0 then 1 else 0) (hF : ∀ j, F j = 0) : RepM I F A0 := by
  have z : ∀ j, ¬ j = 431 → 3 ≤ j → I j = nI 0 := fun j h1 h2 => by
    rw [hI, if_neg h1, if_neg (by omega), if_neg (by omega), if_neg (by omega)]; rfl
  refine ⟨fun r k hr hk => ?_, fun t k ht hk => z _ (by omega) (by omega), fun t d k ht hd hk => z _ (by omega) (by omega), fun t d h k ht hd hh hk => z _ (by omega) (by omega), fun r d hr hd => ?_, fun k hk => ?_, fun r d hr hd => hF _⟩
  · by_cases e : r = 0
    · subst e
      have : k = 0 ∨ k = 1 ∨ k = 2 ∨ 3 ≤ k := by omega
      rcases this with e | e | e | e
      · subst e; rw [hI]; rfl
      · subst e; rw [hI]; rfl
      · subst e; rw [hI]; rfl
      · rw [A0_9 e]; exact z _ (by omega) (by omega)
    · rw [A0_r e]; exact z _ (by omega) (by omega)
  · rw [A0_9 (by omega)]; exact z _ (by omega) (by omega)
  · by_cases e : k = 3
    · subst e; rw [hI]; rfl
    · rw [z _ (by omega) (by omega)]
      show _ = nI (if k = 3 then 3 else 0)
      rw [if_neg e]
theorem A0_RepC {I : Nat → Nat → Int32} {F : Nat → Nat → UInt32} (hI : ∀ q k, 2 ≤ q → q < 200 → I q k = if q = 11 ∧ k = 2 then 3 else if q = 14 ∧ k = 0 then 1 else if q = 14 ∧ k = 1 then 4 else if q = 14 ∧ k = 2 then 3 else 0) : RepC I F 11 A0 := by
  have z : ∀ q k, 2 ≤ q → q < 200 → ¬ (q = 11 ∧ k = 2) → ¬ (q = 14 ∧ k < 3) → I q k = nI 0 := fun q k h1 h2 h3 h4 => by
    rw [hI q k h1 h2, if_neg h3, if_neg (by omega), if_neg (by omega), if_neg (by omega)]; rfl
  refine ⟨⟨by rw [hI 11 2 (by omega) (by omega)]; rfl, z _ _ (by omega) (by omega) (by omega) (by omega), z _ _ (by omega) (by omega) (by omega) (by omega), z _ _ (by omega) (by omega) (by omega) (by omega), z _ _ (by omega) (by omega) (by omega) (by omega)⟩, fun r hr => ?_, fun r hr hp => ?_, fun r h1 hr hp => ?_, fun t ht => ?_, fun t _ ho => A0_n ho, fun t d _ ho => A0_n ho, fun t d h _ ho => A0_n ho⟩
  · by_cases e : r = 0
    · subst e
      rw [hI _ _ (by unfold ro; omega) (by unfold ro; omega)]; rfl
    · rw [A0_r e]
      exact z _ _ (by unfold ro; omega) (by unfold ro; omega) (by unfold ro; omega) (by unfold ro; omega)
  · have := A0_0 hp
    subst this
    refine ⟨?_, ?_, ?_, ?_, ?_⟩
    · rw [hI _ _ (by unfold ro; omega) (by unfold ro; omega)]; rfl
    · rw [hI _ _ (by unfold ro; omega) (by unfold ro; omega)]; rfl
    · exact z _ _ (by unfold ro; omega) (by unfold ro; omega) (by unfold ro; omega) (by unfold ro; omega)
    · exact z _ _ (by unfold ro; omega) (by unfold ro; omega) (by unfold ro; omega) (by unfold ro; omega)
    · exact z _ _ (by unfold ro; omega) (by unfold ro; omega) (by unfold ro; omega) (by unfold ro; omega)
  · have := A0_0 hp; omega
  · exact z _ _ (by unfold tu; omega) (by unfold tu; omega) (by unfold tu; omega) (by unfold tu; omega)
theorem inv0 (hN : mNx ν = 200) (hl : mSl ν ≤ 2000) (hK : ClsL (mS ν) (mP ν)) (hc : ClsNew ν) (h1 : mS ν 1 = (98, L)) (h2 : mI ν 1 = xs) : Inv L xs (rCe (mNew ν 9 (mN 9))) := by
  have n1 : mNx (mNew ν 9 (mN 9)) = 201 := by rw [mNx_Nw, hN]
  have s1 : mS (mNew ν 9 (mN 9)) 200 = (9, 21) := by rw [mS_Nw, hN, if_pos rfl]; rfl
  have sl : mSl (mNew ν 9 (mN 9)) = mSl ν + 21 := rfl
  obtain ⟨x1, x2, x3, x4, x5⟩ := Ext_rC n1
  have n18 : mNx (rC18 (mNew ν 9 (mN 9))) = 219 := nC18 n1
  rw [n1] at x1 x2 x3
  rw [n18] at x3 x4
  have hR : RefL (mS (rCe (mNew ν 9 (mN 9)))) (mP (rCe (mNew ν 9 (mN 9)))) := by
    rw [mS_rCe, mP_rCe]; exact RefL_new s1 n1
  have eS : ∀ q, q < 200 → mS (rCe (mNew ν 9 (mN 9))) q = mS ν q := fun q hq => by
    rw [mS_rCe, (x2 q (by omega)).2.2.2, mS_Nw, hN, if_neg (by omega)]
  have eP : ∀ q, q < 200 → mP (rCe (mNew ν 9 (mN 9))) q = mP ν q := fun q hq => by
    rw [mP_rCe, x5 q hq]
    funext j
    rw [mP_Nw, hN, if_neg (by omega)]
  have eI : ∀ q, q < 200 → mI (rCe (mNew ν 9 (mN 9))) q = mI ν q := fun q hq => by
    funext j
    rw [mI_rCe, if_neg (by omega), if_neg (by omega), if_neg (by omega), if_neg (by omega), (x2 q (by omega)).1, mI_Nw, hN, if_neg (by omega)]
  have eF : ∀ q, q < 200 → mF (rCe (mNew ν 9 (mN 9))) q = mF ν q := fun q hq => by
    rw [mF_rCe, (x2 q (by omega)).2.1]
    funext j
    rw [mF_Nw, hN, if_neg (by omega)]
  have z2 : ∀ j, mI (rCe (mNew ν 9 (mN 9))) 200 j = nI 0 := fun j => by
    rw [mI_rCe, if_neg (by omega), if_neg (by omega), if_neg (by omega), if_neg (by omega), (x2 200 (by omega)).1, mI_Nw, hN, if_pos rfl]; rfl
  have z5 : ∀ j, mI (rCe (mNew ν 9 (mN 9))) 205 j = nI 0 := fun j => by
    rw [mI_rCe, if_neg (by omega), if_neg (by omega), if_neg (by omega), if_neg (by omega), (x3 205 (by omega) (by omega) j).1]; rfl
  have hC : CS (rCe (mNew ν 9 (mN 9))) 11 A0 := by
    refine ⟨(ClsL.fb hK).congr (fun q a b => eS q (by omega)) (fun q a b => eP q (by omega)), A0_RepC (fun q k a b => ?_)⟩
    rw [eI q b]
    exact (hc.1 q a b k).1
  have hM : RS (rCe (mNew ν 9 (mN 9))) A0 := by
    refine ⟨hR, A0_RepM (fun j => ?_) (fun j => by rw [mF_rCe]; exact (x3 202 (by omega) (by omega) j).2.1)⟩
    rw [mI_rCe, (x3 201 (by omega) (by omega) j).1]
    simp only [eq_self, true_and]
  have zb : ∀ q k, 2 ≤ q → q < 200 → ¬ (q = 11 ∧ k = 2) → ¬ (q = 14 ∧ k < 3) → mI (rCe (mNew ν 9 (mN 9))) q k = nI 0 := fun q k y1 y2 y3 y4 => by
    rw [eI q y2, (hc.1 q y1 y2 k).1, if_neg y3, if_neg (by omega), if_neg (by omega), if_neg (by omega)]; rfl
  have p2 : ∀ i, mP (rCe (mNew ν 9 (mN 9))) 192 i = 0 := fun i => by rw [eP 192 (by omega)]; exact hc.2 i
  have so : ∀ i, SlotOK (rCe (mNew ν 9 (mN 9))) i := fun i => Or.inl ⟨p2 i, z5 i⟩
  refine ⟨⟨by rw [eS 1 (by omega)]; exact h1, by rw [eI 1 (by omega)]; exact h2⟩, ⟨A0, ⟨ClsL_cg hK eS (fun q hq _ => eP q hq), hC, hM, A0_wft, A0_wfu⟩, fun t d h _ ho => A0_n ho⟩, ⟨0, by omega, zb 3 1 (by omega) (by omega) (by omega) (by omega), z2 6, fun j hj => by omega⟩, ⟨⟨so 0, so 1⟩, Or.inl (p2 0), ?_, ?_, ?_⟩, fun r hr => Or.inl (zb _ _ (by unfold ro; omega) (by unfold ro; omega) (by unfold ro; omega) (by unfold ro; omega)), fun t d ht hd => Or.inl (zb _ _ (by unfold wy; omega) (by unfold wy; omega) (by unfold wy; omega) (by unfold wy; omega))⟩
  · rw [mNx_rCe, n18]; exact Nat.le_refl _
  · rw [mNx_rCe, n18]; exact Nat.le_add_right _ _
  · rw [mSl_rC, sl]; omega
theorem inv_B (hI : Inv L xs μ) : mS μ 1 = (98, L) ∧ mI μ 1 = xs ∧ (mS μ 2).1 = 8 ∧ (mS μ 200).1 = 9 := by
  obtain ⟨⟨i1, i2⟩, ⟨A, ⟨hK, hC, hM, ht, hu⟩, hZ⟩, hT, hsl, hB⟩ := hI
  exact ⟨i1, i2, by rw [ClsL.s hK], by rw [RefL.s hM.1]⟩
theorem inv_ops : Ops (Inv L xs) := ⟨op0, op1, op2, op3, op4, op5, op6, op7, op8, op9, op10, op11, op12, op13, op14, op15, op16, op17, op18, op19, op20, op21, op22, op23, op24, op25, op26, op27, op28, op29, op30⟩
theorem law_ok0 (hL : L ≤ 2560) : ∃ μ', s242 (mStart L xs) 1 = some (1, μ') ∧ mNx μ' ≤ 581 ∧ mSl μ' ≤ 60000 := by
  have e0 : mNx (mStart L xs) = 2 := rfl
  obtain ⟨ν, e1, n1, l1, hK, hc, s1, i1⟩ := c96 (μ := mNew (mStart L xs) 8 (mN 8)) rfl rfl (fun k => ⟨rfl, rfl, rfl⟩)
  have l2 : mSl (mNew (mStart L xs) 8 (mN 8)) = 6 := rfl
  have hI : Inv L xs (rCe (mNew ν 9 (mN 9))) := inv0 n1 (by omega) hK hc (by rw [s1]; rfl) (by rw [i1]; rfl)
  have n2 : mNx (mNew ν 9 (mN 9)) = 201 := by rw [mNx_Nw, n1]
  have s2 : mS (mNew ν 9 (mN 9)) 200 = (9, 21) := by rw [mS_Nw, n1, if_pos rfl]; rfl
  have e2 := c143 s2 n2
  obtain ⟨m, e3, hm⟩ := law_loop hL (fun μ => inv_B) inv_ops hI
  refine ⟨m, ?_, ?_, ?_⟩
  · unfold s242
    rw [e0]
    refine bindS rfl (iteT rfl (bindS e1 (bindS rfl (iteT (by rw [n1, s2]) (bindS (v := rCe (mNew ν 9 (mN 9))) (by rw [n1]; exact e2) (bindS (v := .inl m) (by rw [n1]; exact e3) rfl))))))
  · obtain ⟨-, -, -, ⟨-, -, -, h, -⟩, -⟩ := hm
    unfold nSl at h
    have : ∀ x : Nat, (if x = 0 then 0 else 1) ≤ 1 := fun x => by split <;> omega
    have y0 := this (mP m 192 0)
    have y1 := this (mP m 192 1)
    omega
  · obtain ⟨-, -, -, ⟨-, -, -, -, h⟩, -⟩ := hm
    unfold nSl at h
    have : ∀ x : Nat, (if x = 0 then 0 else 1) ≤ 1 := fun x => by split <;> omega
    have y0 := this (mP m 192 0)
    have y1 := this (mP m 192 1)
    omega
end UC
