/-! the tick, both sides -/
section UA
variable {μ ν : mM} {A : Ab} {r n a b k d x y : Nat} {sd : SD} {s : P3}
theorem ps_le : (ps A sd r d).2.2 ≤ cap A r d := by
  unfold ps
  split
  · exact Nat.sub_le _ _
  · exact Nat.zero_le _
theorem p2_cap : cap (p2 s r).1 a b = cap s.1 a b := cap_cg (A := s.1) (A' := (p2 s r).1) (fun q => p2_R (by omega)) (fun q => p2_R (by omega)) (p2_R (by omega))
theorem p2_Bd (h : Bd s.1 s.2.2) : Bd (p2 s r).1 (p2 s r).2.2 := by
  intro a b ha hb
  rw [p2_cap]
  unfold p2
  split
  · show up2n s.2.2 r _ _ a b ≤ _
    unfold up2n
    by_cases e : a = r
    · subst e
      rw [if_pos rfl]
      by_cases z : b = 0
      · subst z
        rw [if_pos rfl]; exact ps_le
      · rw [if_neg z, show b = 1 by omega]
        refine Nat.le_trans ps_le ?_
        rw [cap_ps]; exact Nat.le_refl _
    · rw [if_neg e]; exact h a b ha hb
  · exact h a b ha hb
theorem p2N_Bd (h : Bd s.1 s.2.2) : ∀ n, Bd (p2N s n).1 (p2N s n).2.2
  | 0 => h
  | n + 1 => p2_Bd (p2N_Bd h n)
theorem stN_R (h : ¬ (k = 6 ∨ k = 8)) : ∀ n, aR (stN A n) a k = aR A a k
  | 0 => rfl
  | n + 1 => (stir_R (A := stN A n) (fun z => h z.2)).trans (stN_R h n)
/-- the parts of a tick -/
def z0 (S : Ab) : P3 := (S, fun _ _ _ => 0, fun _ _ => 0)
theorem bd_of {P : P3} {S M : Ab} (hP : p2N (z0 S) 7 = P) (hM : mvN P.1 P.2.1 10 = M) : Bd M P.2.2 := by
  have h := p2N_Bd (s := z0 S) (fun a b _ _ => Nat.zero_le _) 7
  rw [hP] at h
  have e := (mvN_1 (A := P.1) (sd := P.2.1) 10).1
  rw [hM] at e
  intro a b ha hb
  have e' : ∀ q k, aR M q k = aR P.1 q k := fun q k => congrFun (congrFun e q) k
  rw [cap_cg (A := P.1) (A' := M) (fun q => e' q 3) (fun q => e' q 2) (e' a 5)]
  exact h a b ha hb
theorem tC_wf (ht : WFt A) (hu : WFu A) : WFt (setC (setC A 0 x) 1 y) ∧ WFu (setC (setC A 0 x) 1 y) := by
  refine ⟨ht.cgR (fun _ _ _ => rfl) (fun q q1 q8 hq => ?_), wfu_cgR hu (fun _ _ _ => rfl) rfl rfl ?_ (fun q q1 q8 hq => ?_)⟩
  · obtain ⟨-, -, -, -, -, -, -, -, y5, y6, y9, y10, y8, yl⟩ := ht.w q1 q8 hq
    exact ⟨y5, y6, y9, y10, y8, yl⟩
  · rw [aC_setC, if_neg (by omega), aC_setC, if_neg (by omega)]; exact hu.2.1
  · rw [cap_cg (A := A) (A' := setC (setC A 0 x) 1 y) (fun _ => rfl) (fun _ => rfl) rfl]; exact hu.rsv q1 q8 hq
theorem SO_0 : SO A (fun _ _ _ => 0) := ⟨fun _ _ _ _ _ _ _ => Nat.zero_le _, fun _ _ _ _ _ _ _ => rfl⟩
/-- the counts -/
def cnt (F : Ab) (m : Nat) : Ab := setC (setC F 0 (aC F 0 + 1)) 1 (aC F 1 + m)
theorem j1e {F : Ab} {m : Nat} (hC : CS ν 11 F) (hw : WN F) : ∃ ν', (if (mS ν 11).1 = 1 then (some (mUI ν 11 3 ((mI ν 11 3) + 1))).bind fun μ44 => (some (mUI μ44 11 4 ((mI μ44 11 4) + nI m))).bind fun μ45 => some (nI m, μ45) else none) = some (nI m, ν') ∧ CS ν' 11 (cnt F m) ∧ FrF 11 ν ν' := by
  have c5 := CS.uC0 (v := aC F 0 + 1) hC hw
  have q3 : mI ν 11 3 + 1 = nI (aC F 0 + 1) := by rw [RepC.k3 hC.2]; exact nI_add _ 1
  obtain ⟨ν5, h5⟩ : ∃ ν5, ν5 = mUI ν 11 3 (nI (aC F 0 + 1)) := ⟨_, rfl⟩
  rw [← h5] at c5
  have q4 : mI ν5 11 4 + nI m = nI (aC F 1 + m) := by rw [h5, mI_UI, if_neg (by omega), RepC.k4 hC.2, nI_add]
  have hw5 : WN (setC F 0 (aC F 0 + 1)) := hw.cg rfl (fun _ => ⟨rfl, rfl⟩) (fun _ _ z => z)
  have c6 := CS.uC1 (v := aC F 1 + m) c5 hw5
  have f5 : FrF 11 ν ν5 := by rw [h5]; exact FrF_f
  refine ⟨_, iteT (by rw [FabL.s0 hC.1]) (bindS (v := ν5) (by rw [q3, h5]) (bindS (v := mUI ν5 11 4 (nI (aC F 1 + m))) (by rw [q4]) rfl)), c6, f5.trans FrF_f⟩
theorem k219e {F : Ab} {m : Nat} (hM : RS ν F) : ∃ ν', (if (mS ν 200).1 = 9 then if (mS ν (mP ν 200 0)).1 = 10 ∧ mInb 428 (mS ν (mP ν 200 0)).2 then (some (mUI ν (mP ν 200 0) (Int32.toNatClampNeg 428) ((mI ν (mP ν 200 0) (Int32.toNatClampNeg 428)) + 1))).bind fun μ55 => if (mS μ55 (mP μ55 200 0)).1 = 10 ∧ mInb 429 (mS μ55 (mP μ55 200 0)).2 then (some (mUI μ55 (mP μ55 200 0) (Int32.toNatClampNeg 429) ((mI μ55 (mP μ55 200 0) (Int32.toNatClampNeg 429)) + nI m))).bind fun μ57 => some (nI m, μ57) else none else none else none) = some (nI m, ν') ∧ RS ν' (cnt F m) ∧ Fr 201 203 ν ν' := by
  have hR := hM.1
  have g0 : mI ν 201 428 = nI (aC F 0) := hM.2.2.2.2.2.2.1 0 (by omega)
  have g1 : mI ν 201 429 = nI (aC F 1) := hM.2.2.2.2.2.2.1 1 (by omega)
  have q0 : mI ν 201 428 + 1 = nI (aC F 0 + 1) := by rw [g0]; exact nI_add _ 1
  have c7 := RS.uC (k := 0) (v := aC F 0 + 1) hM (by omega)
  obtain ⟨ν7, h7⟩ : ∃ ν7, ν7 = mUI ν 201 428 (nI (aC F 0 + 1)) := ⟨_, rfl⟩
  have c7' : RS ν7 (setC F 0 (aC F 0 + 1)) := by rw [h7]; exact c7
  have hR7 := c7'.1
  have q1 : mI ν7 201 429 + nI m = nI (aC F 1 + m) := by rw [h7, mI_UI, if_neg (by omega), g1, nI_add]
  have c8 := RS.uC (k := 1) (v := aC F 1 + m) c7' (by omega)
  have f7 : Fr 201 203 ν ν7 := by rw [h7]; exact Fr_UI ν (by omega) (by omega) _ _
  have l0 : Int32.toNatClampNeg 428 = 428 := rfl
  have l1 : Int32.toNatClampNeg 429 = 429 := rfl
  refine ⟨mUI ν7 201 (428 + 1) (nI (aC F 1 + m)), ?_, c8, f7.trans (Fr_UI ν7 (by omega) (by omega) _ _)⟩
  refine iteT (by rw [RefL.s hR]) (iteT (by rw [RefL.r0 hR, RefL.a0 hR]; exact ⟨rfl, (mInb_iff (j := 428) (by omega)).mpr (by omega)⟩) (bindS (v := ν7) (by rw [RefL.r0 hR, l0, q0, h7]) (iteT (by rw [RefL.r0 hR7, RefL.a0 hR7]; exact ⟨rfl, (mInb_iff (j := 429) (by omega)).mpr (by omega)⟩) (bindS (v := mUI ν7 201 429 (nI (aC F 1 + m))) (by rw [RefL.r0 hR7, l1, q1]) rfl))))
theorem j1x {P : P3} {S M F : Ab} {m : Nat} (hS : stN A 7 = S) (hP : p2N (z0 S) 7 = P) (hMv : mvN P.1 P.2.1 10 = M) (hV : tot P.1 P.2.1 10 = m) (hFn : finN M P.2.2 7 = F) (hK : ClsL (mS μ) (mP μ)) (hC : CS μ 11 A) (ht : WFt A) (hu : WFu A) (hZ : SZ (mI μ) 11 A) : ∃ ν, s1 μ 193 11 = some (nI m, ν) ∧ CS ν 11 (cnt F m) ∧ SZ (mI ν) 11 (cnt F m) ∧ FrC μ ν ∧ WFt (cnt F m) ∧ WFu (cnt F m) := by
  obtain ⟨ν1, e1, c1, f1⟩ := j1a hK hC ht hu
  obtain ⟨t1, u1⟩ := stN_wf ht hu 7 (by omega)
  have hT : (stN A 7).2.1 = A.2.1 := by rw [stN_2]
  have hR3 : ∀ q, aR (stN A 7) q 3 = aR A q 3 := fun q => stN_R (by omega) 7
  rw [hS] at c1 t1 u1 hT hR3
  have kc : KC μ ν1 (z0 S) 0 := by
    refine ⟨c1, fun t d h x1 x2 x3 x4 => ?_, SO_0, t1, u1, f1.C, fun a b x y => by omega⟩
    have x2' : aT A t 0 = 1 := (congrFun (congrFun hT t) 0).symm.trans x2
    have x4' : h < wN A t d := by
      have : h < wN S t d := x4
      rw [wN_cg (A := A) (A' := S) hR3 (congrFun (congrFun hT t) 1) (congrFun (congrFun hT t) 2)] at this
      exact this
    rw [f1.2.1 t d x1 x3]
    exact hZ t d h x1 x2' x3 x4'
  obtain ⟨ν2, e2, k2⟩ := j1b hK kc
  rw [hP] at k2
  obtain ⟨c2, x2, o2, t2, u2, f2, r2⟩ := k2
  obtain ⟨ν3, e3, c3, z3, f3, r3⟩ := j8 (q := 193) c2 t2 u2 o2 x2
  obtain ⟨t3, u3, -⟩ := mvN_wf t2 u2 o2 10 (by omega)
  have eM := (mvN_1 (A := P.1) (sd := P.2.1) 10).1
  have bd := bd_of hP hMv
  rw [hMv] at c3 z3 t3 u3 eM
  rw [hV] at e3
  have hK2 := hK.fr f2.1
  have hK3 := hK2.fr f3.1
  obtain ⟨ν4, e4, c4, f4⟩ := j1d (A := M) (o := P.2.2) (x := nI m) hK3 c3 t3 u3 bd (fun a b a1 a8 hb hp => by
    rw [r3 a a8]
    exact (r2 a b a1 (by omega) a8 hb ((congrFun (congrFun eM a) 0).symm.trans hp)).1)
  obtain ⟨t4, u4⟩ := finN_wf (A := M) (o := P.2.2) t3 u3 bd 7 (by omega)
  have e := (finN_2 (A := M) (o := P.2.2) 7).1
  have e' : ∀ q, aR (finN M P.2.2 7) q 3 = aR M q 3 := fun q => finN_R (by omega) 7
  rw [hFn] at t4 u4 c4 e e'
  obtain ⟨ν6, e6, c6, f6⟩ := j1e (m := m) c4 (WN.of t4 u4)
  have ff : FrF 11 ν3 ν6 := f4.1.trans f6
  have wf := tC_wf (x := aC F 0 + 1) (y := aC F 1 + m) t4 u4
  refine ⟨ν6, ?_, c6, ?_, ⟨(f2.1.trans f3.1).trans ff.C.1, fun h => ff.C.2 (f3.2 (f2.2 h))⟩, wf.1, wf.2⟩
  · unfold s1
    exact bindS e1 (bindS e2 (iteT (by rw [(ck_s hK2).1]) (bindS e3 (bindS e4 e6))))
  · intro t d h x1 x2 x3 x4
    rw [ff.2.1 t d x1 x3]
    refine z3 t d h x1 ((congrFun (congrFun e t) 0).symm.trans x2) x3 ?_
    rw [wN_cg (A := M) (A' := cnt F m) e' (congrFun (congrFun e t) 1) (congrFun (congrFun e t) 2)] at x4
    exact x4
theorem k219x {P : P3} {S M F : Ab} {m : Nat} (hS : stN A 7 = S) (hP : p2N (z0 S) 7 = P) (hMv : mvN P.1 P.2.1 10 = M) (hV : tot P.1 P.2.1 10 = m) (hFn : finN M P.2.2 7 = F) (hM : RS μ A) (ht : WFt A) (hu : WFu A) : ∃ ν, s219 μ 200 = some (nI m, ν) ∧ RS ν (cnt F m) ∧ FrR μ ν := by
  have hR := hM.1
  obtain ⟨ν1, e1, c1, f1⟩ := k211 hM ht hu
  obtain ⟨t1, u1⟩ := stN_wf ht hu 7 (by omega)
  rw [hS] at c1 t1 u1
  obtain ⟨ν2, e2, f2, z2⟩ := k219a c1
  have c2 := c1.fr f2 (by omega)
  obtain ⟨ν3, e3, f3, z3⟩ := k219b c2
  have c3 := c2.fr f3 (by omega)
  have km : KM μ ν3 (z0 S) := by
    refine ⟨c3, fun t d h x1 x2 x3 => ?_, SO_0, t1, u1, ((f1.R (by omega)).trans (f2.R (by omega))).trans (f3.R (by omega)), fun a b ha hb => z3 _ (by omega)⟩
    rw [(f3.2 213 (by omega)).1]
    exact z2 _ (by omega)
  obtain ⟨ν4, e4, k4⟩ := k219c km (fun _ _ => rfl)
  rw [hP] at k4
  obtain ⟨c4, x4, o4, t4, u4, f4, r4⟩ := k4
  obtain ⟨ν5, e5, c5, f5⟩ := k216 c4 t4 u4 o4 x4
  obtain ⟨t5, u5, -⟩ := mvN_wf t4 u4 o4 10 (by omega)
  have bd := bd_of hP hMv
  rw [hMv] at c5 t5 u5
  rw [hV] at e5
  obtain ⟨ν6, e6, c6, f6⟩ := k219d (A := M) (o := P.2.2) (x := nI m) c5 t5 u5 bd (fun a b ha hb => by
    rw [(f5.2 214 (by omega)).1]; exact r4 a b ha hb)
  rw [hFn] at c6
  obtain ⟨ν8, e8, c8, f8⟩ := k219e (m := m) c6
  refine ⟨ν8, ?_, c8, (f4.trans (f5.R (by omega))).trans ((f6.trans f8).R (by omega))⟩
  unfold s219
  exact iteT (by rw [RefL.s hR]) (bindS e1 (bindS e2 (bindS e3 (bindS e4 (iteT (by rw [RefL.s c4.1]) (bindS e5 (bindS e6 e8)))))))
/-- a tick and its answer -/
def tkP (A : Ab) : P3 := p2N (z0 (stN A 7)) 7
def tkM (A : Ab) : Ab := mvN (tkP A).1 (tkP A).2.1 10
def tkV (A : Ab) : Nat := tot (tkP A).1 (tkP A).2.1 10
def tkF (A : Ab) : Ab := finN (tkM A) (tkP A).2.2 7
def tkD (A : Ab) : Ab := cnt (tkF A) (tkV A)
theorem tkP_e : p2N (z0 (stN A 7)) 7 = tkP A := rfl
theorem tkM_e : mvN (tkP A).1 (tkP A).2.1 10 = tkM A := rfl
theorem tkV_e : tot (tkP A).1 (tkP A).2.1 10 = tkV A := rfl
theorem tkF_e : finN (tkM A) (tkP A).2.2 7 = tkF A := rfl
theorem tkD_e : cnt (tkF A) (tkV A) = tkD A := rfl
theorem j1 (hK : ClsL (mS μ) (mP μ)) (hC : CS μ 11 A) (ht : WFt A) (hu : WFu A) (hZ : SZ (mI μ) 11 A) : ∃ ν, s1 μ 193 11 = some (nI (tkV A), ν) ∧ CS ν 11 (tkD A) ∧ SZ (mI ν) 11 (tkD A) ∧ FrC μ ν ∧ WFt (tkD A) ∧ WFu (tkD A) := by
  have h := j1x (μ := μ) rfl tkP_e tkM_e tkV_e tkF_e hK hC ht hu hZ
  rw [tkD_e] at h
  exact h
theorem k219 (hM : RS μ A) (ht : WFt A) (hu : WFu A) : ∃ ν, s219 μ 200 = some (nI (tkV A), ν) ∧ RS ν (tkD A) ∧ FrR μ ν := by
  have h := k219x (μ := μ) rfl tkP_e tkM_e tkV_e tkF_e hM ht hu
  rw [tkD_e] at h
  exact h
end UA
