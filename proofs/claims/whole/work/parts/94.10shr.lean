/-! a link's tunnels take their shares -/
section SI
variable {μ ν : mM} {A : Ab} {r t d i n v : Nat} {l s : Nat → UInt32} {ac : Nat → Bool} {q y : UInt32}
def upf (l : Nat → UInt32) (r : Nat) (x : UInt32) : Nat → UInt32 := fun q => if q = r then x else l q
def upb (l : Nat → Bool) (r : Nat) (x : Bool) : Nat → Bool := fun q => if q = r then x else l q
def tkN (A : Ab) (v : Nat) (y : UInt32) (l : Nat → UInt32) : Nat → Nat → UInt32
  | 0 => l
  | k + 1 => upf (tkN A v y l k) (anc A v k) (tkf (tkN A v y l k (anc A v k)) y)
theorem BL_tk (ht : WFt A) (hv : v < 8) (hp : aR A v 0 = 1) (hl : BL A l) (hy : y.toNat ≤ 1103101952) : ∀ k, k ≤ dep A v → BL A (tkN A v y l k)
  | 0, _ => hl
  | k + 1, hk => by
    have ih := BL_tk ht hv hp hl hy k (by omega)
    intro r h1 h2 h3
    show (if r = anc A v k then _ else _ : UInt32).toNat ≤ _
    split
    · rename_i e
      subst e
      exact (tkf_ok (ih _ h1 h2 h3) hy).1
    · exact ih r h1 h2 h3
theorem nI_m1 : ∀ m : Fin 8, nI m.val + (-1) = nI m.val - 1 ∧ nI (m.val + 1) - 1 = nI m.val := by decide
theorem j76 (hK : ClsL (mS μ) (mP μ)) (hC : CS μ 11 A) (ht : WFt A) (hu : WFu A) (hX : SX A 196 μ l s ac) (hl : BL A l) (htt : t < 10) (ho : aT A t 0 = 1) (hy : y.toNat ≤ 1103101952) : ∃ ν, s76 μ 195 (wy 11 t 0) y = some ν ∧ Fr 196 197 μ ν ∧ SX A 196 ν (tkN A (aT A t 2) y l (dep A (aT A t 2))) s ac := by
  have hF := hC.1
  obtain ⟨o1, o2, o3, o4, -⟩ := hu.o htt ho
  have h4 := ht.dep4 o3 o4
  have hN : wN A t 0 = dep A (aT A t 2) := by unfold wN; rw [if_neg (by omega)]
  obtain ⟨o, e, ν, rfl, f1, g1⟩ := mLoop_inv0 (b := s76L5 195 (wy 11 t 0) y) (fun k st => ∃ ν, st = (nI (dep A (aT A t 2) - k) - 1, ν) ∧ Fr 196 197 μ ν ∧ ∀ r, 1 ≤ r → r < 8 → aR A r 0 = 1 → mF ν 196 r = tkN A (aT A t 2) y l k r) (dep A (aT A t 2)) (fun o => ∃ ν, o = .inl ν ∧ Fr 196 197 μ ν ∧ ∀ r, 1 ≤ r → r < 8 → aR A r 0 = 1 → mF ν 196 r = tkN A (aT A t 2) y l (dep A (aT A t 2)) r) (fun k st hk hJ => by
    obtain ⟨ν, rfl, f1, g1⟩ := hJ
    refine Or.inl ⟨(nI (dep A (aT A t 2) - (k + 1)) - 1, mUF ν 196 (anc A (aT A t 2) k) (tkf (tkN A (aT A t 2) y l k (anc A (aT A t 2) k)) y)), ?_, _, rfl, f1.trans (Fr_UF ν (by omega) (by omega) _ _), fun r h1 h2 h3 => ?_⟩
    · have hK' := hK.fr f1
      obtain ⟨p1, p2, p3, p4, p5, p6, p7⟩ := sh_s hK'
      have hC' : CS ν 11 A := hC.fr f1 (by omega)
      have hF' := hC'.1
      obtain ⟨b1, b2, b3⟩ := ht.an o3 o4 k
      have b4 := ht.anc0 o3 o4 k
      have eh : nI (dep A (aT A t 2) - k) - 1 = nI (dep A (aT A t 2) - k - 1) := by
        have := (nI_m1 ⟨dep A (aT A t 2) - k - 1, by omega⟩).2
        rw [← this]; congr 2; show _ = dep A (aT A t 2) - k - 1 + 1; omega
      have mc := m_cl (show dep A (aT A t 2) - k - 1 < 2 ^ 31 by omega)
      have mc2 := m_cl (show anc A (aT A t 2) k < 2 ^ 31 by omega)
      have pa : mI ν (mP ν (wy 11 t 0) 4) (Int32.toNatClampNeg (nI (dep A (aT A t 2) - k - 1))) = nI (anc A (aT A t 2) k) := by
        rw [FabL.w4 hF' htt (by omega), mc, RepC.x1 hC'.2 htt ho (by omega) (by omega)]
        unfold wP
        rw [if_pos rfl]; congr 2; omega
      have lf : mF ν (mP ν 195 0) (Int32.toNatClampNeg (nI (anc A (aT A t 2) k))) = tkN A (aT A t 2) y l k (anc A (aT A t 2) k) := by
        rw [p2, mc2]; exact g1 _ (by omega) b1 b2
      have nn := (tkf_ok (BL_tk ht o3 o4 hl hy k (by omega) _ (by omega) b1 b2) hy).2
      unfold s76L5
      rw [eh]
      refine iteF (by show ¬ nI _ < nI 0; rw [nI_ltI (by omega) (by omega)]; omega) (iteT (by rw [FabL.ws hF' htt (by omega)]) (iteT (by rw [FabL.w4 hF' htt (by omega), FabL.v1 hF' htt (by omega)]; exact ⟨rfl, (mInb_iff (by omega)).mpr (by omega)⟩) ?_))
      rw [pa]
      refine iteF (by show ¬ nI _ ≤ nI 0; rw [nI_leI (by omega) (by omega)]; omega) (iteF (by show ¬ nI 8 ≤ nI _; rw [nI_leI (by omega) (by omega)]; omega) (iteT (by rw [p1]) (iteT (by rw [p2, p5]; exact ⟨rfl, (mInb_iff (by omega)).mpr b1⟩) ?_)))
      rw [lf]
      refine iteT nn ?_
      have fin : ∀ z, s76L5_34 195 (wy 11 t 0) y ν (nI (dep A (aT A t 2) - k - 1)) z (nI (anc A (aT A t 2) k)) (mP ν 195 0) = some (.inl (nI (dep A (aT A t 2) - (k + 1)) - 1, mUF ν 196 (anc A (aT A t 2) k) z)) := fun z => by
        unfold s76L5_34
        rw [p2]
        refine iteT (by rw [p5]; exact ⟨rfl, (mInb_iff (by omega)).mpr b1⟩) ?_
        rw [mc2]
        show some (Sum.inl (nI _ + (-1), _)) = _
        have := (nI_m1 ⟨dep A (aT A t 2) - k - 1, by omega⟩).1
        rw [this]; rfl
      unfold tkf
      by_cases c : 0 ≤ Op.cmpValue (FP.fcmp (FP.fsub (tkN A (aT A t 2) y l k (anc A (aT A t 2) k)) y) FP.fconst0) CmpOp.g
      · rw [if_pos c, if_pos c]; exact fin _
      · rw [if_neg c, if_neg c]; exact fin _
    · rw [mF_UF]
      show _ = if r = anc A (aT A t 2) k then _ else _
      by_cases e : r = anc A (aT A t 2) k
      · rw [if_pos ⟨rfl, e⟩, if_pos e]
      · rw [if_neg (fun z => e z.2), if_neg e]; exact g1 r h1 h2 h3) (fun st hJ => by
    obtain ⟨ν, rfl, f1, g1⟩ := hJ
    refine ⟨.inl ν, ?_, ν, rfl, f1, g1⟩
    unfold s76L5
    rw [Nat.sub_self]
    exact iteT (show nI 0 - 1 < 0 by decide) rfl) (s := (nI (dep A (aT A t 2)) - 1, μ)) ⟨μ, by rw [Nat.sub_zero], Fr.refl _ _ _, fun r _ _ _ => (hX.1 r ‹_› ‹_› ‹_›)⟩ (n := 1000) (by omega)
  refine ⟨ν, ?_, f1, g1, ?_, ?_⟩
  · unfold s76
    refine iteT (by rw [FabL.ws hF htt (by omega)]) (bindS (v := .inl ν) ?_ rfl)
    rw [RepC.w1 hC.2 htt ho (by omega), hN]; exact e
  · rw [(f1.2 (196 + 1) (by omega)).2]; exact hX.2.1
  · rw [(f1.2 (196 + 2) (by omega)).1]; exact hX.2.2
theorem k226 (hM : RS μ A) (ht : WFt A) (hu : WFu A) (hX : SX A 215 μ l s ac) (hl : BL A l) (htt : t < 10) (ho : aT A t 0 = 1) (hy : (s t).toNat ≤ 1103101952) : ∃ ν, s226 μ 200 (nI t) = some ν ∧ Fr 215 216 μ ν ∧ SX A 215 ν (tkN A (aT A t 2) (s t) l (dep A (aT A t 2))) s ac := by
  have hR := hM.1
  obtain ⟨o1, o2, o3, o4, -⟩ := hu.o htt ho
  have h4 := ht.dep4 o3 o4
  obtain ⟨o, e, ν, rfl, f1, g1⟩ := mLoop_inv0 (b := s226L5 200 (nI t)) (fun k st => ∃ ν, st = (nI (anc A (aT A t 2) k), ν) ∧ Fr 215 216 μ ν ∧ ∀ r, 1 ≤ r → r < 8 → aR A r 0 = 1 → mF ν 215 r = tkN A (aT A t 2) (s t) l k r) (dep A (aT A t 2)) (fun o => ∃ ν, o = .inl ν ∧ Fr 215 216 μ ν ∧ ∀ r, 1 ≤ r → r < 8 → aR A r 0 = 1 → mF ν 215 r = tkN A (aT A t 2) (s t) l (dep A (aT A t 2)) r) (fun k st hk hJ => by
    obtain ⟨ν, rfl, f1, g1⟩ := hJ
    refine Or.inl ⟨(nI (anc A (aT A t 2) (k + 1)), mUF ν 215 (anc A (aT A t 2) k) (tkf (tkN A (aT A t 2) (s t) l k (anc A (aT A t 2) k)) (s t))), ?_, _, rfl, f1.trans (Fr_UF ν (by omega) (by omega) _ _), fun r h1 h2 h3 => ?_⟩
    · have hM' : RS ν A := hM.fr f1 (by omega)
      have hR' := hM'.1
      obtain ⟨b1, b2, b3⟩ := ht.an o3 o4 k
      have b4 := ht.anc0 o3 o4 k
      have mc := m_cl (show t < 2 ^ 31 by omega)
      have mc2 := m_cl (show anc A (aT A t 2) k < 2 ^ 31 by omega)
      have lf : mF ν (mP ν 200 16) (Int32.toNatClampNeg (nI (anc A (aT A t 2) k))) = tkN A (aT A t 2) (s t) l k (anc A (aT A t 2) k) := by
        rw [RefL.r16 hR', mc2]; exact g1 _ (by omega) b1 b2
      have sf : mF ν (mP ν 200 17) (Int32.toNatClampNeg (nI t)) = s t := by
        rw [RefL.r17 hR', mc, (f1.2 216 (by omega)).2]; exact hX.2.1 t htt
      have nn := (tkf_ok (BL_tk ht o3 o4 hl hy k (by omega) _ (by omega) b1 b2) hy).2
      unfold s226L5
      refine iteF (by show ¬ nI _ ≤ nI 0; rw [nI_leI (by omega) (by omega)]; omega) (iteT (by rw [RefL.s hR']) (iteT (by rw [RefL.r16 hR', RefL.a16 hR']; exact ⟨rfl, (mInb_iff (by omega)).mpr b1⟩) (iteT (by rw [RefL.r17 hR', RefL.a17 hR']; exact ⟨rfl, (mInb_iff (by omega)).mpr htt⟩) ?_)))
      rw [lf, sf]
      refine iteT nn ?_
      have fin : ∀ z, s226L5_27 200 (nI t) ν (nI (anc A (aT A t 2) k)) z (nI (anc A (aT A t 2) k)) (mP ν 200 16) = some (.inl (nI (anc A (aT A t 2) (k + 1)), mUF ν 215 (anc A (aT A t 2) k) z)) := fun z => by
        unfold s226L5_27
        rw [RefL.r16 hR']
        refine iteT (by rw [RefL.a16 hR']; exact ⟨rfl, (mInb_iff (by omega)).mpr b1⟩) ?_
        rw [mc2]
        have hM'' : RS (mUF ν 215 (anc A (aT A t 2) k) z) A := hM'.fr (Fr_UF ν (lo := 215) (hi := 216) (by omega) (by omega) _ _) (by omega)
        exact bindS (v := mUF ν 215 (anc A (aT A t 2) k) z) rfl (iteT (by rw [RefL.s hM''.1]) (bindS (k148 hM'' b1 (k := 3) (by omega)) rfl))
      unfold tkf
      by_cases c : 0 ≤ Op.cmpValue (FP.fcmp (FP.fsub (tkN A (aT A t 2) (s t) l k (anc A (aT A t 2) k)) (s t)) FP.fconst0) CmpOp.g
      · rw [if_pos c, if_pos c]; exact fin _
      · rw [if_neg c, if_neg c]; exact fin _
    · rw [mF_UF]
      show _ = if r = anc A (aT A t 2) k then _ else _
      by_cases e : r = anc A (aT A t 2) k
      · rw [if_pos ⟨rfl, e⟩, if_pos e]
      · rw [if_neg (fun z => e z.2), if_neg e]; exact g1 r h1 h2 h3) (fun st hJ => by
    obtain ⟨ν, rfl, f1, g1⟩ := hJ
    refine ⟨.inl ν, ?_, ν, rfl, f1, g1⟩
    unfold s226L5
    have := (ht.anc0 o3 o4 (dep A (aT A t 2))).mpr (Nat.le_refl _)
    rw [this]
    exact iteT (show nI 0 ≤ 0 by decide) rfl) (s := (nI (aT A t 2), μ)) ⟨μ, rfl, Fr.refl _ _ _, fun r _ _ _ => (hX.1 r ‹_› ‹_› ‹_›)⟩ (n := 1000) (by omega)
  refine ⟨ν, ?_, f1, g1, ?_, ?_⟩
  · unfold s226
    exact iteT (by rw [RefL.s hR]) (bindS (k159 hM htt (k := 2) (by omega)) (bindS e rfl))
  · rw [(f1.2 (215 + 1) (by omega)).2]; exact hX.2.1
  · rw [(f1.2 (215 + 2) (by omega)).1]; exact hX.2.2
abbrev S3 : Type := (Nat → UInt32) × (Nat → UInt32) × (Nat → Bool)
/-- the tunnels below n over a link take their shares -/
def sN (A : Ab) (r : Nat) (q : UInt32) (p : S3) : Nat → S3
  | 0 => p
  | n + 1 => if (sN A r q p n).2.2 n = true ∧ us A n r 0 = true then (tkN A (aT A n 2) (FP.fmul q (FP.i2f (nI (wgt A n)))) (sN A r q p n).1 (dep A (aT A n 2)), upf (sN A r q p n).2.1 n (FP.fmul q (FP.i2f (nI (wgt A n)))), upb (sN A r q p n).2.2 n false) else sN A r q p n
def OK3 (A : Ab) (p : S3) : Prop := BL A p.1 ∧ AC A p.2.2 ∧ ∀ t, t < 10 → (p.2.1 t).toNat ≤ 1103101952
theorem sN_ok {p : S3} (ht : WFt A) (hu : WFu A) (hp : OK3 A p) (hq : q.toNat ≤ 1094713344) : ∀ n, n ≤ 10 → OK3 A (sN A r q p n)
  | 0, _ => hp
  | n + 1, hn => by
    obtain ⟨h1, h2, h3⟩ := sN_ok ht hu hp hq n (by omega)
    rw [sN]
    split
    · rename_i c
      obtain ⟨o1, o2, o3, o4, -⟩ := hu.o (show n < 10 by omega) (h2 n (by omega) c.1).1
      refine ⟨BL_tk ht o3 o4 h1 (m_ok hq) _ (Nat.le_refl _), fun t htt ha => ?_, fun t htt => ?_⟩
      · change (if t = n then false else _) = true at ha
        split at ha
        · cases ha
        · exact h2 t htt ha
      · show (if t = n then _ else _ : UInt32).toNat ≤ _
        split
        · exact m_ok hq
        · exact h3 t htt
    · exact ⟨h1, h2, h3⟩
theorem sN_ac {p : S3} (t : Nat) : ∀ n, (sN A r q p n).2.2 t = (p.2.2 t && !(decide (t < n) && us A t r 0))
  | 0 => by simp [sN]
  | n + 1 => by
    have ih := sN_ac (p := p) t n
    rw [sN]
    by_cases e : t = n
    · subst e
      simp only [Nat.lt_irrefl, decide_false, Bool.false_and, Bool.not_false, Bool.and_true] at ih
      split
      · rename_i c
        show (if t = t then false else _) = _
        rw [if_pos rfl, c.2]; simp
      · rename_i c
        rw [ih] at c ⊢
        cases h1 : p.2.2 t <;> cases h2 : us A t r 0 <;> simp_all
    · have e2 : decide (t < n + 1) = decide (t < n) := by
        by_cases z : t < n
        · simp [z]; omega
        · simp [z]; omega
      rw [e2, ← ih]
      split
      · show (if t = n then false else _) = _
        rw [if_neg e]
      · rfl
def SY (A : Ab) (a : Nat) (μ : mM) (p : S3) : Prop := SX A a μ p.1 p.2.1 p.2.2
theorem j75 {p : S3} (hK : ClsL (mS μ) (mP μ)) (hC : CS μ 11 A) (ht : WFt A) (hu : WFu A) (hX : SY A 196 μ p) (hp : OK3 A p) (hr : r < 8) (hq : mF μ 195 3 = q) (h12 : q.toNat ≤ 1094713344) : ∃ ν, s75 μ 195 11 (nI r) = some ν ∧ Fr 196 199 μ ν ∧ SY A 196 ν (sN A r q p 10) := by
  obtain ⟨ν, e, f1, g1⟩ := mLoop_mem (b := s75L2 195 11 (nI r)) (μ := μ) (fun i ν => Fr 196 199 μ ν ∧ SY A 196 ν (sN A r q p i)) 0 10 (fun i ν hi hJ => by
    obtain ⟨f1, g1⟩ := hJ
    have hK' := hK.fr f1
    obtain ⟨p1, p2, p3, p4, p5, p6, p7⟩ := sh_s hK'
    have hC' : CS ν 11 A := hC.fr f1 (by omega)
    have hF := hC'.1
    have mc := m_cl (show i < 2 ^ 31 by omega)
    obtain ⟨k1, k2, k3⟩ := sN_ok (r := r) ht hu hp h12 i (by omega)
    have e0 : mI ν (mP ν 195 2) (Int32.toNatClampNeg (nI i)) = bI ((sN A r q p i).2.2 i) := by rw [p4, mc]; exact g1.2.2 i hi
    have lv : mF ν 195 3 = q := by rw [(f1.2 195 (by omega)).2]; exact hq
    rw [Nat.zero_add]
    have skip : ¬ ((sN A r q p i).2.2 i = true ∧ us A i r 0 = true) → s75L2_42 195 11 (nI r) ν (nI i) = some (.inl (nI (i + 1), ν)) ∧ Fr 196 199 μ ν ∧ SY A 196 ν (sN A r q p (i + 1)) := fun c => by
      refine ⟨?_, f1, ?_⟩
      · show some (Sum.inl (nI i + nI 1, _)) = _
        rw [nI_add]
      · rw [sN, if_neg c]; exact g1
    by_cases a : (sN A r q p i).2.2 i = true
    · by_cases b : us A i r 0 = true
      · have ho := (k2 i hi a).1
        have hm := m_ok (A := A) (t := i) h12
        obtain ⟨x, hx⟩ : ∃ x, x = FP.fmul q (FP.i2f (nI (wgt A i))) := ⟨_, rfl⟩
        rw [← hx] at hm
        obtain ⟨ν2, hν⟩ : ∃ ν2, ν2 = mUI (mUF ν 197 i x) 198 i 0 := ⟨_, rfl⟩
        have f2 : Fr 197 199 ν ν2 := by rw [hν]; exact (Fr_UF ν (by omega) (by omega) _ _).trans (Fr_UI _ (by omega) (by omega) _ _)
        have hK2 := hK'.fr f2
        have hC2 : CS ν2 11 A := hC'.fr f2 (by omega)
        have g2 : SX A 196 ν2 (sN A r q p i).1 (upf (sN A r q p i).2.1 i x) (upb (sN A r q p i).2.2 i false) := by
          refine ⟨fun r h1 h2 h3 => by rw [(f2.2 196 (by omega)).2]; exact g1.1 r h1 h2 h3, fun t htt => ?_, fun t htt => ?_⟩
          · rw [hν, mF_UI, mF_UF]
            show _ = if t = i then _ else _
            by_cases z : t = i
            · rw [if_pos ⟨rfl, z⟩, if_pos z]
            · rw [if_neg (fun y => z y.2), if_neg z]; exact g1.2.1 t htt
          · rw [hν, mI_UI]
            show _ = bI (if t = i then _ else _)
            by_cases z : t = i
            · rw [if_pos ⟨rfl, z⟩, if_pos z]; rfl
            · rw [if_neg (fun y => z y.2), if_neg z, mI_UF]; exact g1.2.2 t htt
        obtain ⟨ν3, e3, f3, g3⟩ := j76 hK2 hC2 ht hu g2 k1 hi ho hm
        refine ⟨ν3, ?_, (f1.trans (f2.mono (by omega) (by omega))).trans (f3.mono (by omega) (by omega)), ?_⟩
        · unfold s75L2
          have tp : mP ν (mP ν 11 1) (Int32.toNatClampNeg (nI i)) = tu 11 i := by rw [FabL.p1 hF, mc, FabL.tp hF hi]
          refine iteF (by show ¬ nI 10 ≤ nI i; rw [nI_leI (by omega) (by omega)]; omega) (iteT (by rw [FabL.s0 hF]) (iteT (by rw [FabL.p1 hF, FabL.s2 hF]; exact ⟨rfl, (mInb_iff (by omega)).mpr hi⟩) (iteT (by rw [p1]) (iteT (by rw [p4, p7]; exact ⟨rfl, (mInb_iff (by omega)).mpr hi⟩) ?_))))
          refine iteF (by rw [e0, a]; decide) (iteT (by rw [tp, FabL.ts hF hi]) (bindS (v := bI (us A i r 0)) (by rw [tp]; exact j79 hC' ht hu hi (by omega)) (iteF (by rw [b]; decide) (bindS (v := nI (wgt A i)) (by rw [tp]; exact j82 hC' hu hi ho) ?_))))
          rw [lv, ← hx]
          refine iteT (nn_le hm (by omega)) (iteT (by rw [p3, p6]; exact ⟨rfl, (mInb_iff (by omega)).mpr hi⟩) ?_)
          have p4' : mP (mUF ν 197 i x) 195 2 = 198 := p4
          have p7' : mS (mUF ν 197 i x) 198 = (12, 10) := p7
          obtain ⟨-, -, t3, -, -, t6, -⟩ := sh_s hK2
          have sx : mF ν2 197 i = x := by
            have := g2.2.1 i hi
            change _ = (if i = i then x else _) at this
            rw [if_pos rfl] at this; exact this
          refine bindS (v := mUF ν 197 i x) (by show some (mUF ν (mP ν 195 1) (Int32.toNatClampNeg (nI i)) x) = _; rw [p3, mc]) (iteT (by rw [p4', p7']; exact ⟨rfl, (mInb_iff (by omega)).mpr hi⟩) (bindS (v := ν2) (by rw [p4']; show some (mUI _ 198 (Int32.toNatClampNeg (nI i)) 0) = _; rw [mc, hν]) (iteT (by rw [t3, t6]; exact ⟨rfl, (mInb_iff (by omega)).mpr hi⟩) (bindS (v := ν3) ?_ ?_))))
          · show s76 ν2 195 (mP ν2 (mP ν (mP ν 11 1) (Int32.toNatClampNeg (nI i))) 6) (mF ν2 (mP ν2 195 1) (Int32.toNatClampNeg (nI i))) = _
            rw [tp, FabL.td hC2.1 hi, t3, mc, sx]; exact e3
          · show some (Sum.inl (nI i + nI 1, _)) = _
            rw [nI_add]
        · show SX A 196 ν3 (sN A r q p (i + 1)).1 (sN A r q p (i + 1)).2.1 (sN A r q p (i + 1)).2.2
          rw [sN, if_pos ⟨a, b⟩, ← hx]; exact g3
      · obtain ⟨x1, x2, x3⟩ := skip (fun z => b z.2)
        refine ⟨ν, ?_, x2, x3⟩
        unfold s75L2
        have tp : mP ν (mP ν 11 1) (Int32.toNatClampNeg (nI i)) = tu 11 i := by rw [FabL.p1 hF, mc, FabL.tp hF hi]
        refine iteF (by show ¬ nI 10 ≤ nI i; rw [nI_leI (by omega) (by omega)]; omega) (iteT (by rw [FabL.s0 hF]) (iteT (by rw [FabL.p1 hF, FabL.s2 hF]; exact ⟨rfl, (mInb_iff (by omega)).mpr hi⟩) (iteT (by rw [p1]) (iteT (by rw [p4, p7]; exact ⟨rfl, (mInb_iff (by omega)).mpr hi⟩) ?_))))
        exact iteF (by rw [e0, a]; decide) (iteT (by rw [tp, FabL.ts hF hi]) (bindS (v := bI (us A i r 0)) (by rw [tp]; exact j79 hC' ht hu hi (by omega)) (iteT (by rw [show us A i r 0 = false by simpa using b]; rfl) x1)))
    · obtain ⟨x1, x2, x3⟩ := skip (fun z => a z.1)
      refine ⟨ν, ?_, x2, x3⟩
      unfold s75L2
      refine iteF (by show ¬ nI 10 ≤ nI i; rw [nI_leI (by omega) (by omega)]; omega) (iteT (by rw [FabL.s0 hF]) (iteT (by rw [FabL.p1 hF, FabL.s2 hF]; exact ⟨rfl, (mInb_iff (by omega)).mpr hi⟩) (iteT (by rw [p1]) (iteT (by rw [p4, p7]; exact ⟨rfl, (mInb_iff (by omega)).mpr hi⟩) ?_))))
      exact iteT (by rw [e0, show (sN A r q p i).2.2 i = false by simpa using a]; rfl) x1) (fun ν hJ => by
    unfold s75L2
    exact iteT (by show nI 10 ≤ nI (0 + 10); rw [nI_leI (by omega) (by omega)]; omega) rfl) ⟨Fr.refl _ _ _, hX⟩ (n := 1000) (by omega)
  refine ⟨ν, ?_, f1, g1⟩
  unfold s75
  exact bindS e rfl
theorem k225 {p : S3} (hM : RS μ A) (ht : WFt A) (hu : WFu A) (hX : SY A 215 μ p) (hp : OK3 A p) (hr : r < 8) (hd : d < 2) (h12 : q.toNat ≤ 1094713344) : ∃ ν, mLoop (s225L66L80 200 (nI d) (nI r) q) 1000 (0, μ) = some (.inl ν) ∧ Fr 215 218 μ ν ∧ SY A 215 ν (sN A r q p 10) := by
  obtain ⟨ν, e, f1, g1⟩ := mLoop_mem (b := s225L66L80 200 (nI d) (nI r) q) (μ := μ) (fun i ν => Fr 215 218 μ ν ∧ SY A 215 ν (sN A r q p i)) 0 10 (fun i ν hi hJ => by
    obtain ⟨f1, g1⟩ := hJ
    have hM' : RS ν A := hM.fr f1 (by omega)
    have hR := hM'.1
    have mc := m_cl (show i < 2 ^ 31 by omega)
    obtain ⟨k1, k2, k3⟩ := sN_ok (r := r) ht hu hp h12 i (by omega)
    have e0 : mI ν (mP ν 200 18) (Int32.toNatClampNeg (nI i)) = bI ((sN A r q p i).2.2 i) := by rw [RefL.r18 hR, mc]; exact g1.2.2 i hi
    rw [Nat.zero_add]
    have skip : ¬ ((sN A r q p i).2.2 i = true ∧ us A i r 0 = true) → s225L66L80_111 200 (nI d) (nI r) q ν (nI i) = some (.inl (nI (i + 1), ν)) ∧ Fr 215 218 μ ν ∧ SY A 215 ν (sN A r q p (i + 1)) := fun c => by
      refine ⟨?_, f1, ?_⟩
      · show some (Sum.inl (nI i + nI 1, _)) = _
        rw [nI_add]
      · rw [sN, if_neg c]; exact g1
    by_cases a : (sN A r q p i).2.2 i = true
    · by_cases b : us A i r 0 = true
      · have ho := (k2 i hi a).1
        have hm := m_ok (A := A) (t := i) h12
        obtain ⟨x, hx⟩ : ∃ x, x = FP.fmul q (FP.i2f (nI (wgt A i))) := ⟨_, rfl⟩
        rw [← hx] at hm
        obtain ⟨ν2, hν⟩ : ∃ ν2, ν2 = mUI (mUF ν 216 i x) 217 i 0 := ⟨_, rfl⟩
        have f2 : Fr 216 218 ν ν2 := by rw [hν]; exact (Fr_UF ν (by omega) (by omega) _ _).trans (Fr_UI _ (by omega) (by omega) _ _)
        have hM2 : RS ν2 A := hM'.fr f2 (by omega)
        have g2 : SX A 215 ν2 (sN A r q p i).1 (upf (sN A r q p i).2.1 i x) (upb (sN A r q p i).2.2 i false) := by
          refine ⟨fun r h1 h2 h3 => by rw [(f2.2 215 (by omega)).2]; exact g1.1 r h1 h2 h3, fun t htt => ?_, fun t htt => ?_⟩
          · rw [hν, mF_UI, mF_UF]
            show _ = if t = i then _ else _
            by_cases z : t = i
            · rw [if_pos ⟨rfl, z⟩, if_pos z]
            · rw [if_neg (fun y => z y.2), if_neg z]; exact g1.2.1 t htt
          · rw [hν, mI_UI]
            show _ = bI (if t = i then _ else _)
            by_cases z : t = i
            · rw [if_pos ⟨rfl, z⟩, if_pos z]; rfl
            · rw [if_neg (fun y => z y.2), if_neg z, mI_UF]; exact g1.2.2 t htt
        have ux : upf (sN A r q p i).2.1 i x i = x := by show (if i = i then x else _) = x; rw [if_pos rfl]
        obtain ⟨ν3, e3, f3, g3⟩ := k226 hM2 ht hu g2 k1 hi ho (by rw [ux]; exact hm)
        rw [ux] at g3
        refine ⟨ν3, ?_, (f1.trans (f2.mono (by omega) (by omega))).trans (f3.mono (by omega) (by omega)), ?_⟩
        · unfold s225L66L80
          refine iteF (by show ¬ nI 10 ≤ nI i; rw [nI_leI (by omega) (by omega)]; omega) (iteT (by rw [RefL.s hR]) (iteT (by rw [RefL.r18 hR, RefL.a18 hR]; exact ⟨rfl, (mInb_iff (by omega)).mpr hi⟩) ?_))
          refine iteF (by rw [e0, a]; decide) (bindS (v := bI (us A i r 0)) (by rw [← ac_us (d := d) k2 hi a]; exact k162 hM' ht hu hr hi (by omega)) (iteF (by rw [b]; decide) (bindS (k222 hM' hu hi ho) ?_)))
          rw [← hx]
          refine iteT (nn_le hm (by omega)) (iteT (by rw [RefL.r17 hR, RefL.a17 hR]; exact ⟨rfl, (mInb_iff (by omega)).mpr hi⟩) ?_)
          have p4' : mP (mUF ν 216 i x) 200 18 = 217 := RefL.r18 hR
          have p7' : mS (mUF ν 216 i x) 217 = (12, 10) := RefL.a18 hR
          refine bindS (v := mUF ν 216 i x) (by show some (mUF ν (mP ν 200 17) (Int32.toNatClampNeg (nI i)) x) = _; rw [RefL.r17 hR, mc]) (iteT (by rw [p4', p7']; exact ⟨rfl, (mInb_iff (by omega)).mpr hi⟩) (bindS (v := ν2) (by rw [p4']; show some (mUI _ 217 (Int32.toNatClampNeg (nI i)) 0) = _; rw [mc, hν]) (bindS e3 ?_)))
          show some (Sum.inl (nI i + nI 1, _)) = _
          rw [nI_add]
        · show SX A 215 ν3 (sN A r q p (i + 1)).1 (sN A r q p (i + 1)).2.1 (sN A r q p (i + 1)).2.2
          rw [sN, if_pos ⟨a, b⟩, ← hx]; exact g3
      · obtain ⟨x1, x2, x3⟩ := skip (fun z => b z.2)
        refine ⟨ν, ?_, x2, x3⟩
        unfold s225L66L80
        refine iteF (by show ¬ nI 10 ≤ nI i; rw [nI_leI (by omega) (by omega)]; omega) (iteT (by rw [RefL.s hR]) (iteT (by rw [RefL.r18 hR, RefL.a18 hR]; exact ⟨rfl, (mInb_iff (by omega)).mpr hi⟩) ?_))
        exact iteF (by rw [e0, a]; decide) (bindS (v := bI (us A i r 0)) (by rw [← ac_us (d := d) k2 hi a]; exact k162 hM' ht hu hr hi (by omega)) (iteT (by rw [show us A i r 0 = false by simpa using b]; rfl) x1))
    · obtain ⟨x1, x2, x3⟩ := skip (fun z => a z.1)
      refine ⟨ν, ?_, x2, x3⟩
      unfold s225L66L80
      refine iteF (by show ¬ nI 10 ≤ nI i; rw [nI_leI (by omega) (by omega)]; omega) (iteT (by rw [RefL.s hR]) (iteT (by rw [RefL.r18 hR, RefL.a18 hR]; exact ⟨rfl, (mInb_iff (by omega)).mpr hi⟩) ?_))
      exact iteT (by rw [e0, show (sN A r q p i).2.2 i = false by simpa using a]; rfl) x1) (fun ν hJ => by
    unfold s225L66L80
    exact iteT (by show nI 10 ≤ nI (0 + 10); rw [nI_leI (by omega) (by omega)]; omega) rfl) ⟨Fr.refl _ _ _, hX⟩ (n := 1000) (by omega)
  exact ⟨ν, e, f1, g1⟩
end SI
