def mLp : List (List (Nat × Nat)) := [[(2, 78), (2, 80)],
  [(2, 54), (2, 56), (2, 58), (2, 60), (2, 62), (2, 64), (2, 66)],
  [(1, 114), (1, 116), (1, 118), (1, 120), (1, 122), (1, 124), (1, 126), (1, 128), (1, 130)],
  [(1, 44), (1, 46), (1, 48), (1, 50), (1, 52), (1, 54), (1, 56), (1, 58), (1, 60), (1, 62), (1, 64), (1, 66)],
  [(1, 158), (1, 160), (1, 162), (1, 164), (1, 166), (1, 168), (1, 170)],
  [(2, 94), (2, 96), (2, 98), (2, 100)],
  [(2, 16), (2, 18), (2, 20), (2, 22), (2, 24), (2, 26), (2, 28), (2, 30)],
  [(1, 209), (1, 211), (1, 213), (1, 215), (1, 217), (1, 219), (1, 221), (1, 223), (1, 225)],
  [(2, 110), (2, 112), (2, 114), (2, 116), (2, 118), (2, 120)],
  [(5, 14), (5, 16), (5, 18), (5, 20), (5, 22), (5, 24), (5, 26), (5, 28), (5, 30), (5, 32), (5, 34), (5, 36), (5, 38), (5, 40), (5, 42), (5, 44), (5, 46), (5, 48), (5, 50), (5, 52), (5, 54)]]
def mIp : List (Nat × Nat) := [(2, 71), (1, 71), (1, 86), (1, 21), (1, 80), (2, 84), (1, 173), (1, 179), (1, 13), (4, 228)]
def mNp : List (Nat × Nat) := [(1, 8), (1, 3), (1, 5), (1, 2), (1, 4), (1, 9), (1, 6), (1, 7), (1, 1), (1, 10)]
theorem mAc_i : mWd (1, 69) = some (.arrayClass .int) := by decide +kernel
theorem mAc_f : mWd (1, 133) = some (.arrayClass .float) := by decide +kernel
theorem mAc_z : mWd (2, 103) = some (.arrayClass .boolean) := by decide +kernel
theorem mAo_1 : mWd (2, 69) = some (.arrayOver (.object (mR 1))) := by decide +kernel
theorem mAo_4 : mWd (1, 77) = some (.arrayOver (.object (mR 4))) := by decide +kernel
theorem mAo_6 : mWd (1, 79) = some (.arrayOver (.object (mR 6))) := by decide +kernel
theorem mLays0 : ∀ c, c < 10 → ∀ k, k < mN c → mWd ((mLp.getD c []).getD k (0, 0)) = some (u_lay (mR c) (mTb c) k) := by decide +kernel
theorem mTyOk : ∀ c, c < 10 → ∀ k, k < mN c → parseFieldDescriptor (mTb c k).2.2.1 = some (mFt c k) := by decide +kernel
theorem mNmOk : ∀ c, c < 10 → ∀ a, a < mN c → ∀ b, b < mN c → a ≠ b → (mTb c a).2.1 ≠ (mTb c b).2.1 := by decide +kernel
theorem mInst0 : ∀ c, c < 10 → mWd (mIp.getD c (0, 0)) = some (.instantiable (mR c) (mN c)) := by decide +kernel
theorem mInit0 : ∀ c, c < 10 → mWd (mNp.getD c (0, 0)) = some (.initialized (mR c)) := by decide +kernel
def mOkT : FieldType → Bool
  | .int => true
  | .boolean => true
  | .float => true
  | .long => true
  | .object _ => true
  | .array _ => true
  | _ => false
theorem mOkT0 : ∀ c, c < 10 → ∀ k, k < mN c → mOkT (mFt c k) = true := by decide +kernel
theorem mLays {c : Nat} (hc : c < 10) : ∀ w ∈ u_ws (mR c) (mTb c) (mN c), w ∈ mGd := by
  intro w hw
  obtain ⟨k, hk, rfl⟩ := List.mem_map.mp hw
  refine mGd_in (mLays0 c hc k (List.mem_range.mp hk)) ?_
  unfold u_lay
  split <;> rfl
theorem mInst {c : Nat} (hc : c < 10) : Cond.instantiable (mR c) (mN c) ∈ mGd := mGd_in (mInst0 c hc) rfl
theorem mInit {c : Nat} (hc : c < 10) : Cond.initialized (mR c) ∈ mGd := mGd_in (mInit0 c hc) rfl
theorem mSet_fit {bs ba : Nat} {μ μ' : mM} {a k : Nat} {ft : FieldType} {v : Value} (ho : mOkT ft = true) (h : mSet μ (mTc ft) a k v = some μ') : narrow ft (mTr bs ba v) = mTr bs ba v ∧ fits ft (mTr bs ba v) = true := by
  cases ft <;> simp only [mOkT, Bool.false_eq_true] at ho <;> simp only [mTc] at h <;> cases v <;> simp only [mSet, reduceCtorEq] at h
  all_goals first
    | (refine ⟨rfl, rfl⟩; done)
    | (split at h
       · rename_i hx
         rcases hx with rfl | rfl <;> exact ⟨rfl, rfl⟩
       · cases h)
    | (simp only [mTr]; split <;> exact ⟨rfl, rfl⟩)
section MR
variable {p : Program} {l : Launch} {e : Env} {R : Room} {s : State} {m : MethodId} {args : Array Value} {below : List Frame} {meth : Method} {c : Code} {H : Heap} {locs : List Loc} {cells slots : Nat} {Q : State → Prop}
variable {cc : ByteArray} {pc : Nat} {ls : Array Slot} {rest : List Value} {bs ba : Nat} {D : va_G} {cy : Nat → ClassId} {scr : Cell} {μ μ' : mM} {own : String} {a n k index t ci : Nat} {v : Value} {j : Int32}
theorem mTr_ref (ha : 2 ≤ a) : mTr bs ba (.ref a) = .ref (mAd bs ba a) := by
  show (if a = 0 then Value.null else .ref (mAd bs ba a)) = _
  rw [if_neg (by omega)]
theorem mr_get (hx : p.tables.exec = Jvm.exec) (hb : c.code = cc) (hts : ∀ w ∈ mGd, w.before args s = true) (hown : s.vm.findClass own = some m.cls) (hK : mKn D cy scr s) (hW : mW bs ba D cy scr μ H) (hs : mS μ a = (ci, n)) (hc : ci < 10) (hk : k < mN ci) (hl : Cond.fieldLink own index (mTb ci k).1 (mTb ci k).2.1 (mTb ci k).2.2.1 ∈ mGd) (hdg : decode cc pc = .ok (.getfield index, 3))
    (kk : W p l e R s m args below meth c H locs cells slots Q (F0 m (pc + 3) ls (mTr bs ba (mVl μ (mTy ci k) a k) :: rest))) : W p l e R s m args below meth c H locs cells slots Q (F0 m pc ls (mTr bs ba (.ref a) :: rest)) := by
  obtain ⟨g1, g2, g3⟩ := hW.2.2.2.1 a ci n hs (by omega)
  obtain ⟨-, cell, q1, q2, q3, q4⟩ := g3.1 hc
  obtain ⟨hS, hfc, kC, hkC, hkind⟩ := hK.1.1 ci _ (mCl_at hc)
  obtain ⟨cf, kf, fi, f, hi, hsl⟩ := hS k hk
  rw [mTr_ref g1]
  refine W.getf hx hb hown (hts _ hl) hi (u_facts hfc hkC (u_lays hts (mLays hc) hk) hi).1 q1 (by rw [q3]; exact fun h => by cases h) (v := mFn bs ba μ ci a k) ?_ rfl rfl hdg kk
  rw [hsl, q4 k hk]
theorem mr_put (hx : p.tables.exec = Jvm.exec) (hb : c.code = cc) (hts : ∀ w ∈ mGd, w.before args s = true) (hown : s.vm.findClass own = some m.cls) (hK : mKn D cy scr s) (hW : mW bs ba D cy scr μ H) (hs : mS μ a = (ci, n)) (hc : ci < 10) (hk : k < mN ci) (hl : Cond.fieldLink own index (mTb ci k).1 (mTb ci k).2.1 (mTb ci k).2.2.1 ∈ mGd) (hset : mSet μ (mTy ci k) a k v = some μ') (hfin : (mTb ci k).2.2.2 = true → meth.name = "<init>" ∧ (mTb ci k).1 = own) (hdg : decode cc pc = .ok (.putfield index, 3))
    (kk : ∀ (H1 : Heap) (lc : Loc), lc.base = mAd bs ba a → mW bs ba D cy scr μ' H1 → W p l e R s m args below meth c H1 (locs ++ [lc]) cells slots Q (F0 m (pc + 3) ls rest)) : W p l e R s m args below meth c H locs cells slots Q (F0 m pc ls (mTr bs ba v :: mTr bs ba (.ref a) :: rest)) := by
  obtain ⟨g1, g2, g3⟩ := hW.2.2.2.1 a ci n hs (by omega)
  obtain ⟨hn, cell, q1, q2, q3, q4⟩ := g3.1 hc
  have hty : mTy ci k = mTc (mFt ci k) := by unfold mTy; rw [if_pos hc]
  obtain ⟨f1, f2⟩ := mSet_fit (bs := bs) (ba := ba) (mOkT0 ci hc k hk) (by rw [← hty]; exact hset)
  obtain ⟨hS, hfc, kC, hkC, hkind⟩ := hK.1.1 ci _ (mCl_at hc)
  obtain ⟨cf, kf, fi, f, hi, hsl⟩ := hS k hk
  have hap := va_apart (own := own) hts (mLays hc) (mFt ci) (mTyOk ci hc) (mNmOk ci hc) hK.1 (mCl_at hc)
  have hst := (u_facts hfc hkC (u_lays hts (mLays hc) hk) hi).1
  have hlay := hts _ (mLays hc _ (u_in_lay hk))
  have end1 : ∀ H1 : Heap, H1[mAd bs ba a]? = some (cell.setSlot (D.2 ci k) (mTr bs ba v)) → H1.size = H.size → (∀ q, q ≠ mAd bs ba a → H1[q]? = H[q]?) → mW bs ba D cy scr μ' H1 := by
    intro H1 e1 e2 e3
    refine mW_put hW hs (by omega) hset e2 e3 ⟨fun _ => ⟨hn, ?_⟩, fun h => absurd hc h⟩
    rw [mFn_self hset]
    exact ⟨_, e1, q2, q3, t_set q4 hap hk _⟩
  rw [mTr_ref g1]
  by_cases hf : (mTb ci k).2.2.2 = true
  · obtain ⟨hin2, hdecl⟩ := hfin hf
    unfold u_lay at hlay
    rw [if_pos hf] at hlay
    have hcf : m.cls = cf := by
      obtain ⟨_, _, c', _, _, _, -, -, hf', -, -, -, hown2, -⟩ := Cond.laysFinal_spec hlay
      have e1 : c' = cf := by have := hi.symm.trans hf'; simp at this; exact this.1.symm
      rw [hdecl] at hown2
      rw [← e1]; exact Option.some.inj (hown.symm.trans hown2)
    have h6 := u_fits hfc hkC hkind (Or.inr hlay) hi (mTyOk ci hc k hk) f1 f2
    refine W.putFinK hx hb hown (hts _ hl) hi hst hcf hin2 (by rw [q2]; exact h6) q1 q3 (by rw [hsl]; exact k2_hasslot (q4 k hk)) rfl rfl hdg fun H' e1 e2 e3 => ?_
    rw [hsl] at e1 ⊢
    exact kk H' _ rfl (end1 H' e1 e2 e3)
  · unfold u_lay at hlay
    rw [if_neg hf] at hlay
    have h6 := u_store hfc hkC hkind hlay hi (mTyOk ci hc k hk) f1 f2
    refine W.putK hx hb (f := f) ⟨hown, hts _ hl, ⟨_, _, _, hi⟩, hst⟩ (by rw [q2]; exact h6) q1 q3 (by rw [hsl]; exact k2_hasslot (q4 k hk)) rfl rfl hdg fun H' e1 e2 e3 => ?_
    rw [hsl] at e1 ⊢
    exact kk H' _ rfl (end1 H' e1 e2 e3)
/-- an array of the world -/
theorem mW_arr (hW : mW bs ba D cy scr μ H) (hs : mS μ a = (t, n)) (ht : t < 30) (h10 : ¬ t < 10) : 2 ≤ a ∧ H[mAd bs ba a]? = some (arrV (cy t) n (mFn bs ba μ t a)) := by
  obtain ⟨g1, g2, g3⟩ := hW.2.2.2.1 a t n hs ht
  exact ⟨g1, g3.2 h10⟩
theorem mW_arrput (hW : mW bs ba D cy scr μ H) (hs : mS μ a = (t, n)) (ht : t < 30) (h10 : ¬ t < 10) (hset : mSet μ (mTy t k) a k v = some μ') {H1 : Heap} (e1 : H1[mAd bs ba a]? = some ((arrV (cy t) n (mFn bs ba μ t a)).setSlot k (mTr bs ba v))) (e2 : H1.size = H.size) (e3 : ∀ q, q ≠ mAd bs ba a → H1[q]? = H[q]?) : mW bs ba D cy scr μ' H1 := by
  refine mW_put hW hs ht hset e2 e3 ⟨fun h => absurd h h10, fun _ => ?_⟩
  rw [e1, arrV_store, mFn_self hset]
theorem mr_iald (hx : p.tables.exec = Jvm.exec) (hb : c.code = cc) (hK : mKn D cy scr s) (hW : mW bs ba D cy scr μ H) (hs : mS μ a = (t, n)) (ht : t = 10 ∨ t = 98) (hin : ¬ (j < 0 ∨ n ≤ j.toNatClampNeg)) (hdg : decode cc pc = .ok (.iaload, 1))
    (kk : W p l e R s m args below meth c H locs cells slots Q (F0 m (pc + 1) ls (.int (mI μ a j.toNatClampNeg) :: rest))) : W p l e R s m args below meth c H locs cells slots Q (F0 m pc ls (.int j :: mTr bs ba (.ref a) :: rest)) := by
  have hlt : j.toNatClampNeg < n := Nat.not_le.mp fun q => hin (Or.inr q)
  rcases ht with rfl | rfl
  · obtain ⟨g1, g2⟩ := mW_arr hW hs (by omega) (by omega)
    rw [mTr_ref g1]
    exact W.iald (v := .int (mI μ a j.toNatClampNeg)) hx hb g2 ((hK.1.2 0 _ rfl).1 n _) (fun q => by cases q) (by rw [arrV_size]; exact hin) (by rw [arrV_read _ _ hlt]; rfl) rfl rfl hdg kk
  · obtain ⟨g1, g2, g3, g4⟩ := hW.2.2.2.2 a n hs
    subst g1
    have e0 : mTr bs ba (.ref 1) = .ref bs := rfl
    rw [e0]
    exact W.iald (v := .int (mI μ 1 j.toNatClampNeg)) hx hb g2 hK.2.2.2.1 hK.2.2.2.2 (by rw [g3]; exact hin) (g4 _ hlt) rfl rfl hdg kk
theorem mr_fald (hx : p.tables.exec = Jvm.exec) (hb : c.code = cc) (hK : mKn D cy scr s) (hW : mW bs ba D cy scr μ H) (hs : mS μ a = (11, n)) (hin : ¬ (j < 0 ∨ n ≤ j.toNatClampNeg)) (hdg : decode cc pc = .ok (.faload, 1))
    (kk : W p l e R s m args below meth c H locs cells slots Q (F0 m (pc + 1) ls (.float (mF μ a j.toNatClampNeg) :: rest))) : W p l e R s m args below meth c H locs cells slots Q (F0 m pc ls (.int j :: mTr bs ba (.ref a) :: rest)) := by
  have hlt : j.toNatClampNeg < n := Nat.not_le.mp fun q => hin (Or.inr q)
  obtain ⟨g1, g2⟩ := mW_arr hW hs (by omega) (by omega)
  rw [mTr_ref g1]
  exact W.fald (v := .float (mF μ a j.toNatClampNeg)) hx hb g2 ((hK.1.2 1 _ rfl).1 n _) (fun q => by cases q) (by rw [arrV_size]; exact hin) (by rw [arrV_read _ _ hlt]; rfl) rfl rfl hdg kk
theorem mr_zald (hx : p.tables.exec = Jvm.exec) (hb : c.code = cc) (hK : mKn D cy scr s) (hW : mW bs ba D cy scr μ H) (hs : mS μ a = (12, n)) (hin : ¬ (j < 0 ∨ n ≤ j.toNatClampNeg)) (hdg : decode cc pc = .ok (.baload, 1))
    (kk : W p l e R s m args below meth c H locs cells slots Q (F0 m (pc + 1) ls (.int (mI μ a j.toNatClampNeg) :: rest))) : W p l e R s m args below meth c H locs cells slots Q (F0 m pc ls (.int j :: mTr bs ba (.ref a) :: rest)) := by
  have hlt : j.toNatClampNeg < n := Nat.not_le.mp fun q => hin (Or.inr q)
  obtain ⟨g1, g2⟩ := mW_arr hW hs (by omega) (by omega)
  rw [mTr_ref g1]
  exact W.zald (v := .int (mI μ a j.toNatClampNeg)) hx hb g2 ((hK.1.2 2 _ rfl).1 n _) (fun q => by cases q) (by rw [arrV_size]; exact hin) (by rw [arrV_read _ _ hlt]; rfl) rfl rfl hdg kk
/-- which place of mTys an array class over objects has -/
theorem mTys_o (h : ci = 1 ∨ ci = 4 ∨ ci = 6) : ∃ t0 : Nat, (mTys cy)[t0]? = some (cy (20 + ci), FieldType.object (mR ci)) := by
  rcases h with rfl | rfl | rfl
  · exact ⟨3, rfl⟩
  · exact ⟨4, rfl⟩
  · exact ⟨5, rfl⟩
theorem mr_aald (hx : p.tables.exec = Jvm.exec) (hb : c.code = cc) (hK : mKn D cy scr s) (hW : mW bs ba D cy scr μ H) (hs : mS μ a = (20 + ci, n)) (hc : ci = 1 ∨ ci = 4 ∨ ci = 6) (hin : ¬ (j < 0 ∨ n ≤ j.toNatClampNeg)) (hdg : decode cc pc = .ok (.aaload, 1))
    (kk : W p l e R s m args below meth c H locs cells slots Q (F0 m (pc + 1) ls (mTr bs ba (.ref (mP μ a j.toNatClampNeg)) :: rest))) : W p l e R s m args below meth c H locs cells slots Q (F0 m pc ls (.int j :: mTr bs ba (.ref a) :: rest)) := by
  have hlt : j.toNatClampNeg < n := Nat.not_le.mp fun q => hin (Or.inr q)
  obtain ⟨g1, g2⟩ := mW_arr hW hs (by omega) (by omega)
  obtain ⟨t0, ht0⟩ := mTys_o (cy := cy) hc
  rw [mTr_ref g1]
  have hty : ∀ k, mTy (20 + ci) k = 3 := by
    intro k; unfold mTy; rw [if_neg (by omega), if_neg (by omega), if_neg (by omega), if_neg (by omega)]
  exact W.aald (v := mTr bs ba (.ref (mP μ a j.toNatClampNeg))) (ty := .object (mR ci)) hx hb g2 ((hK.1.2 t0 _ ht0).1 n _) rfl (fun q => by cases q) (by rw [arrV_size]; exact hin) (by rw [arrV_read _ _ hlt]; unfold mFn; rw [hty]; rfl) rfl rfl hdg kk
theorem mr_iast (hx : p.tables.exec = Jvm.exec) (hb : c.code = cc) (hK : mKn D cy scr s) (hW : mW bs ba D cy scr μ H) (hs : mS μ a = (10, n)) (hin : ¬ (j < 0 ∨ n ≤ j.toNatClampNeg)) {x : Int32} (hset : mSet μ 0 a j.toNatClampNeg (.int x) = some μ') (hdg : decode cc pc = .ok (.iastore, 1))
    (kk : ∀ (H1 : Heap) (lc : Loc), lc.base = mAd bs ba a → mW bs ba D cy scr μ' H1 → W p l e R s m args below meth c H1 (locs ++ [lc]) cells slots Q (F0 m (pc + 1) ls rest)) : W p l e R s m args below meth c H locs cells slots Q (F0 m pc ls (.int x :: .int j :: mTr bs ba (.ref a) :: rest)) := by
  obtain ⟨g1, g2⟩ := mW_arr hW hs (by omega) (by omega)
  rw [mTr_ref g1]
  exact W.iast hx hb g2 ((hK.1.2 0 _ rfl).1 n _) (fun q => by cases q) (by rw [arrV_size]; exact hin) rfl rfl hdg fun H1 e1 e2 e3 => kk H1 _ rfl (mW_arrput (t := 10) (v := .int x) hW hs (by omega) (by omega) hset e1 e2 e3)
theorem mr_fast (hx : p.tables.exec = Jvm.exec) (hb : c.code = cc) (hK : mKn D cy scr s) (hW : mW bs ba D cy scr μ H) (hs : mS μ a = (11, n)) (hin : ¬ (j < 0 ∨ n ≤ j.toNatClampNeg)) {x : UInt32} (hset : mSet μ 1 a j.toNatClampNeg (.float x) = some μ') (hdg : decode cc pc = .ok (.fastore, 1))
    (kk : ∀ (H1 : Heap) (lc : Loc), lc.base = mAd bs ba a → mW bs ba D cy scr μ' H1 → W p l e R s m args below meth c H1 (locs ++ [lc]) cells slots Q (F0 m (pc + 1) ls rest)) : W p l e R s m args below meth c H locs cells slots Q (F0 m pc ls (.float x :: .int j :: mTr bs ba (.ref a) :: rest)) := by
  obtain ⟨g1, g2⟩ := mW_arr hW hs (by omega) (by omega)
  rw [mTr_ref g1]
  exact W.fast hx hb g2 ((hK.1.2 1 _ rfl).1 n _) (fun q => by cases q) (by rw [arrV_size]; exact hin) rfl rfl hdg fun H1 e1 e2 e3 => kk H1 _ rfl (mW_arrput (t := 11) (v := .float x) hW hs (by omega) (by omega) hset e1 e2 e3)
theorem mr_zast (hx : p.tables.exec = Jvm.exec) (hb : c.code = cc) (hK : mKn D cy scr s) (hW : mW bs ba D cy scr μ H) (hs : mS μ a = (12, n)) (hin : ¬ (j < 0 ∨ n ≤ j.toNatClampNeg)) {x : Int32} (hset : mSet μ 4 a j.toNatClampNeg (.int x) = some μ') (hdg : decode cc pc = .ok (.bastore, 1))
    (kk : ∀ (H1 : Heap) (lc : Loc), lc.base = mAd bs ba a → mW bs ba D cy scr μ' H1 → W p l e R s m args below meth c H1 (locs ++ [lc]) cells slots Q (F0 m (pc + 1) ls rest)) : W p l e R s m args below meth c H locs cells slots Q (F0 m pc ls (.int x :: .int j :: mTr bs ba (.ref a) :: rest)) := by
  obtain ⟨g1, g2⟩ := mW_arr hW hs (by omega) (by omega)
  rw [mTr_ref g1]
  have hn : narrow .boolean (.int x) = .int x := (mSet_fit (bs := bs) (ba := ba) (ft := .boolean) rfl hset).1
  exact W.zast hx hb g2 ((hK.1.2 2 _ rfl).1 n _) (fun q => by cases q) (by rw [arrV_size]; exact hin) rfl rfl hdg fun H1 e1 e2 e3 => kk H1 _ rfl (mW_arrput (t := 12) (v := .int x) hW hs (by omega) (by omega) hset (by rw [e1, hn]; rfl) e2 e3)
theorem mr_aast (hx : p.tables.exec = Jvm.exec) (hb : c.code = cc) (hK : mKn D cy scr s) (hW : mW bs ba D cy scr μ H) (hs : mS μ a = (20 + ci, n)) (hc : ci = 1 ∨ ci = 4 ∨ ci = 6) (hin : ¬ (j < 0 ∨ n ≤ j.toNatClampNeg)) {q nq : Nat} (hq : mS μ q = (ci, nq)) (hset : mSet μ 3 a j.toNatClampNeg (.ref q) = some μ') (hdg : decode cc pc = .ok (.aastore, 1))
    (kk : ∀ (H1 : Heap) (lc : Loc), lc.base = mAd bs ba a → mW bs ba D cy scr μ' H1 → W p l e R s m args below meth c H1 (locs ++ [lc]) cells slots Q (F0 m (pc + 1) ls rest)) : W p l e R s m args below meth c H locs cells slots Q (F0 m pc ls (mTr bs ba (.ref q) :: .int j :: mTr bs ba (.ref a) :: rest)) := by
  have hlt : j.toNatClampNeg < n := Nat.not_le.mp fun q => hin (Or.inr q)
  have h0 : ¬ j < 0 := fun q => hin (Or.inl q)
  have hci : ci < 10 := by omega
  obtain ⟨g1, g2⟩ := mW_arr hW hs (by omega) (by omega)
  obtain ⟨t0, ht0⟩ := mTys_o (cy := cy) hc
  obtain ⟨f1, f2, f3⟩ := hW.2.2.2.1 q ci nq hq (by omega)
  obtain ⟨-, cellV, d1, d2, d3, d4⟩ := f3.1 hci
  have hcls := (hK.1.1 ci _ (mCl_at hci)).2
  obtain ⟨kA, comp, k1, k2, k3, -⟩ := (hK.1.2 t0 _ ht0).2
  have hcomp : comp = D.1 ci := Option.some.inj (k3.symm.trans hcls.1)
  subst hcomp
  obtain ⟨kC, hkC, -⟩ := hcls.2
  have hty : ∀ k, mTy (20 + ci) k = 3 := by
    intro k; unfold mTy; rw [if_neg (by omega), if_neg (by omega), if_neg (by omega), if_neg (by omega)]
  rw [mTr_ref g1, mTr_ref f1]
  refine W.aast hx hb g2 (fun q h => by cases h) (fun h => by cases h) k1 k2 rfl hkC ⟨h0, by rw [arrV_size]; exact hlt⟩ d1 (fun q h => by rw [d3] at h; cases h) (by rw [d2]; exact hkC) (by rw [d2]; exact va_assign hcls) rfl rfl hdg fun H1 e1 e2 e3 => ?_
  exact kk H1 _ rfl (mW_arrput (t := 20 + ci) (v := .ref q) hW hs (by omega) (by omega) (by rw [hty]; exact hset) (by rw [e1, mTr_ref f1]) e2 e3)
theorem mr_new (hx : p.tables.exec = Jvm.exec) (hb : c.code = cc) (hts : ∀ w ∈ mGd, w.before args s = true) (hown : s.vm.findClass own = some m.cls) (hK : mKn D cy scr s) (hW : mW bs ba D cy scr μ H) (hc : ci < 10) (hl : Cond.classLink own index (mR ci) ∈ mGd) (hcells : cells + 1 ≤ R.cells) (hslots : slots + mN ci ≤ R.slots) (hdg : decode cc pc = .ok (.new index, 3))
    (kk : ∀ (H1 : Heap), mW bs ba D cy scr (mNew μ ci (mN ci)) H1 → W p l e R s m args below meth c H1 locs (cells + 1) (slots + mN ci) Q (F0 m (pc + 3) ls (mTr bs ba (.ref (mNx μ)) :: rest))) : W p l e R s m args below meth c H locs cells slots Q (F0 m pc ls rest) := by
  have hKn := hK.1.1 ci _ (mCl_at hc)
  have had : mAd bs ba (mNx μ) = H.size := by rw [mAd_ge hW.1, hW.2.1]
  refine W.newcK hx hb hown (hts _ hl) (hts _ (mInst hc)) (hts _ (mInit hc)) rfl hdg hcells hslots hKn.2.1 rfl fun H1 kC hkC e1 z1 o1 => ?_
  have h2 := kk H1 (mW_new hW (by omega) z1 o1 ⟨fun _ => ⟨rfl, ?_⟩, fun h => absurd hc h⟩)
  · rw [mTr_ref hW.1, had] at h2
    exact h2
  · rw [had]
    refine (u_born (mFt ci) hts (mLays hc) hKn hkC e1 (mTyOk ci hc)).to (fun k hk => ?_)
    have hty : mTy ci k = mTc (mFt ci k) := by unfold mTy; rw [if_pos hc]
    have ho := mOkT0 ci hc k hk
    unfold mFn
    rw [mNew_vl0, hty]
    cases hq : mFt ci k <;> rw [hq] at ho <;> simp only [mOkT, Bool.false_eq_true] at ho <;> rfl
theorem mArr_name (hK : mKn D cy scr s) {t0 : Nat} {ty : FieldType} (ht : (mTys cy)[t0]? = some (cy t, ty)) (hp : ∀ C, ty ≠ .object C) {cA : ClassId} (h : s.vm.findClass ("[" ++ ty.toString) = some cA) : cA = cy t := by
  have h2 := (hK.1.2 t0 _ ht).2
  unfold va_RA at h2
  split at h2
  · rename_i C hC
    exact absurd hC (hp C)
  · exact Option.some.inj (h.symm.trans h2)
theorem mr_newa (hx : p.tables.exec = Jvm.exec) (hb : c.code = cc) (hts : ∀ w ∈ mGd, w.before args s = true) (hK : mKn D cy scr s) (hW : mW bs ba D cy scr μ H) {atype : ArrayType} {t0 : Nat} {ty : FieldType} (hty0 : newarray.typeOf atype = ty) (ht0 : (mTys cy)[t0]? = some (cy t, ty)) (hp : ∀ C, ty ≠ .object C) (h10 : ¬ t < 10) (ht30 : t < 30) (hd : ∀ k, defaultValue ty = mTr bs ba (match mTy t k with | 1 => .float 0 | 2 => .long 0 | 3 => .ref 0 | _ => .int 0)) (hcb : componentBytes ty ≤ 8) (hac : Cond.arrayClass ty ∈ mGd) (hn : ¬ j < 0) (hle : j.toNatClampNeg ≤ 10000) (hcells : cells + 1 ≤ R.cells) (hslots : slots + j.toNatClampNeg ≤ R.slots) (hdg : decode cc pc = .ok (.newarray atype, 2))
    (kk : ∀ (H1 : Heap), mW bs ba D cy scr (mNew μ t j.toNatClampNeg) H1 → W p l e R s m args below meth c H1 locs (cells + 1) (slots + j.toNatClampNeg) Q (F0 m (pc + 2) ls (mTr bs ba (.ref (mNx μ)) :: rest))) : W p l e R s m args below meth c H locs cells slots Q (F0 m pc ls (.int j :: rest)) := by
  subst hty0
  have had : mAd bs ba (mNx μ) = H.size := by rw [mAd_ge hW.1, hW.2.1]
  refine va_newaK hx hb (hts _ hac) rfl hdg rfl hn rfl (by have := Nat.mul_le_mul hle hcb; omega) hcells hslots rfl fun H1 cA e1 z1 o1 hAr hNm => ?_
  have hcA := mArr_name hK ht0 hp hNm
  subst hcA
  have h2 := kk H1 (mW_new hW ht30 z1 o1 ⟨fun h => absurd h h10, fun _ => ?_⟩)
  · rw [mTr_ref hW.1, had] at h2
    exact h2
  · rw [had, e1]
    congr 2
    funext k
    unfold mFn
    rw [mNew_vl0]
    exact hd k
theorem mr_newq (hx : p.tables.exec = Jvm.exec) (hb : c.code = cc) (hts : ∀ w ∈ mGd, w.before args s = true) (hown : s.vm.findClass own = some m.cls) (hK : mKn D cy scr s) (hW : mW bs ba D cy scr μ H) (hc : ci = 1 ∨ ci = 4 ∨ ci = 6) (hl : Cond.classLink own index (mR ci) ∈ mGd) (hao : Cond.arrayOver (.object (mR ci)) ∈ lw_tbl) (hn : ¬ j < 0) (hle : j.toNatClampNeg ≤ 10000) (hcells : cells + 1 ≤ R.cells) (hslots : slots + j.toNatClampNeg ≤ R.slots) (hdg : decode cc pc = .ok (.anewarray index, 3))
    (kk : ∀ (H1 : Heap), mW bs ba D cy scr (mNew μ (20 + ci) j.toNatClampNeg) H1 → W p l e R s m args below meth c H1 locs (cells + 1) (slots + j.toNatClampNeg) Q (F0 m (pc + 3) ls (mTr bs ba (.ref (mNx μ)) :: rest))) : W p l e R s m args below meth c H locs cells slots Q (F0 m pc ls (.int j :: rest)) := by
  have had : mAd bs ba (mNx μ) = H.size := by rw [mAd_ge hW.1, hW.2.1]
  have hci : ci < 10 := by omega
  obtain ⟨t0, ht0⟩ := mTys_o (cy := cy) hc
  refine W.anew hx hb hown (hts _ hl) (va_AO.use (hK.2.2.1 _ hao)) rfl hdg rfl hn (by omega) hcells hslots fun cA kA comp f1 f2 f3 f4 => ?_
  obtain ⟨kA', comp', k1, k2, k3, k4⟩ := (hK.1.2 t0 _ ht0).2
  have hcA : cA = cy (20 + ci) := Option.some.inj (f1.symm.trans k4)
  subst hcA
  have hty : ∀ k, mTy (20 + ci) k = 3 := by
    intro k; unfold mTy; rw [if_neg (by omega), if_neg (by omega), if_neg (by omega), if_neg (by omega)]
  have h2 := kk _ (mW_new (H' := H.push ({ cls := cy (20 + ci), slots := Array.replicate j.toNatClampNeg .null, vm := .none } : Cell)) hW (by omega) (by rw [Array.size_push]) (fun q hq => by rw [Array.getElem?_push, if_neg (Nat.ne_of_lt hq)]) ⟨fun h => absurd h (by omega), fun _ => ?_⟩)
  · rw [mTr_ref hW.1, had] at h2
    exact h2
  · rw [had, Array.getElem?_push_size, arrV_new]
    congr 2
    funext k
    unfold mFn
    rw [mNew_vl0, hty]
    rfl
theorem mr_alen (hx : p.tables.exec = Jvm.exec) (hb : c.code = cc) (hK : mKn D cy scr s) (hW : mW bs ba D cy scr μ H) (hs : mS μ a = (98, n)) (hdg : decode cc pc = .ok (.arraylength, 1))
    (kk : W p l e R s m args below meth c H locs cells slots Q (F0 m (pc + 1) ls (.int (Int32.ofNat n) :: rest))) : W p l e R s m args below meth c H locs cells slots Q (F0 m pc ls (mTr bs ba (.ref a) :: rest)) := by
  obtain ⟨g1, g2, g3, g4⟩ := hW.2.2.2.2 a n hs
  subst g1
  have e0 : mTr bs ba (.ref 1) = .ref bs := rfl
  rw [e0]
  exact W.alen hx hb g2 hK.2.2.2.1 (by rw [g3] <;> rfl) rfl rfl hdg kk
/-- a float constant of the pool, by a wide index -/
theorem mr_ldcwF (hx : p.tables.exec = Jvm.exec) (hb : c.code = cc) {v : UInt32} (hown : s.vm.findClass own = some m.cls) (hconst : (Cond.constantFloat own index v).before args s = true) (hdg : decode cc pc = .ok (.ldc_w index, 3))
    (kk : W p l e R s m args below meth c H locs cells slots Q (F0 m (pc + 3) ls (.float v :: rest))) : W p l e R s m args below meth c H locs cells slots Q (F0 m pc ls rest) := by
  intro T hT X
  obtain ⟨t, a1, b1⟩ := kk T hT X
  refine ⟨t, ?_, b1⟩
  subst hb
  obtain ⟨k, cf, hk, hcf, hcp⟩ := Cond.constantFloat_spec hown hconst
  obtain ⟨k', hk', he⟩ := X.warmed.alike.2.2 _ _ hk
  jvm_step X.here [hx, hdg, ldc_w.wp_float (s := T) (f := F0 m pc ls rest) X.here.top hk' (by rw [he]; exact hcf) hcp]
  exact a1
end MR
