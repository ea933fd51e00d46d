/-! the tick: all cells move -/
section TM
variable {μ ν ν1 : mM} {A : Ab} {r t d n m k a b v c e h : Nat} {sd : SD} {w : Nat → Nat → Nat} {s : Nat → Nat}
theorem wfu_st (hu : WFu A) (h1 : w 4 0 ≤ 99) (h2 : ∀ h, h < 4 → w h 2 ≤ w h 1 ∧ w h 1 ≤ 6 ∧ w h 0 ≤ 15) (h3 : ∀ h, h < wN A t d → 8 ≤ w h 0) (h4 : ∀ h k, h < 4 → k < 3 → wN A t d ≤ h → w h k = 0) (h5 : aT A t 1 = 0 → d = 1 → w 4 0 = 0 ∧ w 4 1 = 0) : WFu (stW A t d w) := by
  have eu : ∀ a q b, us (stW A t d w) a q b = us A a q b := fun a q b => us_cg (A := A) (A' := stW A t d w) (fun _ => rfl) rfl rfl rfl
  have ew : ∀ a b, wN (stW A t d w) a b = wN A a b := fun a b => wN_cg (A := A) (A' := stW A t d w) (fun _ => rfl) rfl rfl
  have er : ∀ q, rsv (stW A t d w) q = rsv A q := fun q => by
    unfold rsv
    refine sumN_congr (fun i _ => ?_)
    rw [eu]; rfl
  have ec : ∀ q, cap (stW A t d w) q 0 = cap A q 0 := fun q => cap_cg (A := A) (A' := stW A t d w) (fun _ => rfl) (fun _ => rfl) rfl
  refine ⟨hu.1, hu.2.1, fun a ha hoa => ?_, fun q x y z => by rw [er, ec]; exact hu.2.2.2.1 q x y z, hu.2.2.2.2⟩
  obtain ⟨o1, o2, o3, o4, o5, o6, o7, o8, o9, o10, o11, o12⟩ := hu.o ha hoa
  refine ⟨o1, o2, o3, o4, o5, o6, o7, o8, fun b hb => ⟨?_, fun h hh => ?_⟩, fun b h hb hh => ?_, fun b h k hb hh hk hn => ?_, fun k0 => ?_⟩
  · rw [aW_st]
    split
    · exact h1
    · exact (o9 b hb).1
  · rw [aW_st, aW_st, aW_st]
    by_cases z : a = t ∧ b = d
    · rw [if_pos z, if_pos z, if_pos z]; exact h2 h hh
    · rw [if_neg z, if_neg z, if_neg z]; exact (o9 b hb).2 h hh
  · rw [ew] at hh
    rw [aW_st]
    by_cases z : a = t ∧ b = d
    · rw [if_pos z]
      obtain ⟨z1, z2⟩ := z
      subst z1 z2
      exact h3 h hh
    · rw [if_neg z]; exact o10 b h hb hh
  · rw [ew] at hn
    rw [aW_st]
    by_cases z : a = t ∧ b = d
    · rw [if_pos z]
      obtain ⟨z1, z2⟩ := z
      subst z1 z2
      exact h4 h k hh hk hn
    · rw [if_neg z]; exact o11 b h k hb hh hk hn
  · rw [aW_st, aW_st]
    by_cases z : a = t ∧ 1 = d
    · rw [if_pos z, if_pos z]
      obtain ⟨z1, z2⟩ := z
      subst z1
      exact h5 k0 z2.symm
    · rw [if_neg z, if_neg z]; exact o12 k0
/-- what was sent over a way is small -/
def SOt (A : Ab) (sd : SD) (t d : Nat) : Prop := ∀ h, h < wN A t d → sd t d h ≤ wait A t d h ∧ sd t d h ≤ aW A t d h 1 - aW A t d h 2
theorem wv_wf (ht : WFt A) (hu : WFu A) (htt : t < 10) (hd : d < 2) (hs : aT A t 0 = 1 → SOt A sd t d) : WFu (stW A t d (wv A sd t d)) := by
  by_cases c : aT A t 0 = 1 ∧ ¬ wN A t d = 0
  · obtain ⟨ho, n0⟩ := c
    have n4 := wN_le (d := d) ht hu htt ho
    obtain ⟨o1, o2, o3, o4, o5, o6, o7, o8, o9, o10, o11, o12⟩ := hu.o htt ho
    obtain ⟨s1, s2, s3⟩ := hw_spec (w := aW A t d) (s := sd t d) (wN A t d) n4
    have hs := hs ho
    have we : wv A sd t d = dlw (hw (aW A t d) (sd t d) (wN A t d)) (wN A t d) := by unfold wv; rw [if_pos ⟨ho, n0⟩]
    rw [we]
    unfold dlw
    obtain ⟨q1, q2⟩ := o9 d hd
    have A1 : ∀ h e, h < 4 → ¬ e = 2 → up2 (up2 (hw (aW A t d) (sd t d) (wN A t d)) (wN A t d - 1) 2 0) 4 1 (hw (aW A t d) (sd t d) (wN A t d) 4 1 + hw (aW A t d) (sd t d) (wN A t d) (wN A t d - 1) 2) h e = aW A t d h e := fun h e x y => by
      rw [up2_at, if_neg (by omega), up2_at, if_neg (by omega), s3 h e (by omega) (by omega)]
    have A2 : ∀ h, h < 4 → up2 (up2 (hw (aW A t d) (sd t d) (wN A t d)) (wN A t d - 1) 2 0) 4 1 (hw (aW A t d) (sd t d) (wN A t d) 4 1 + hw (aW A t d) (sd t d) (wN A t d) (wN A t d - 1) 2) h 2 = if h = wN A t d - 1 then 0 else hw (aW A t d) (sd t d) (wN A t d) h 2 := fun h x => by
      rw [up2_at, if_neg (by omega), up2_at]
      by_cases z : h = wN A t d - 1
      · rw [if_pos z, if_pos ⟨z, rfl⟩]
      · rw [if_neg z, if_neg (fun y => z y.1)]
    refine wfu_st hu ?_ (fun h hh => ?_) (fun h hh => ?_) (fun h k hh hk hn => ?_) (fun k0 d1 => ?_)
    · rw [up2_at, if_neg (by omega), up2_at, if_neg (by omega), s2, if_neg n0]; omega
    · have q := q2 h hh
      rw [A2 h hh, A1 h 1 hh (by omega), A1 h 0 hh (by omega)]
      refine ⟨?_, q.2⟩
      by_cases z : h = wN A t d - 1
      · rw [if_pos z]; omega
      · rw [if_neg z, s1 h hh]
        by_cases y : h < wN A t d
        · rw [if_pos y]
          have := hs h y
          split <;> omega
        · rw [if_neg y]; exact q.1
    · rw [A1 h 0 (by omega) (by omega)]; exact o10 d h hd hh
    · have z0 := o11 d h k hd hh hk hn
      by_cases k2 : k = 2
      · rw [k2, A2 h hh, if_neg (by omega), s1 h hh, if_neg (by omega)]; rw [k2] at z0; exact z0
      · rw [A1 h k hh k2]; exact z0
    · exfalso
      apply n0
      unfold wN
      rw [if_pos ⟨d1, k0⟩]
  · have we : wv A sd t d = aW A t d := by unfold wv; rw [if_neg c]
    rw [we, stW_same]; exact hu
theorem wv_st {x : Nat → Nat → Nat} (h : ¬ (a = t ∧ b = d)) : wv (stW A t d x) sd a b = wv A sd a b ∧ dv (stW A t d x) sd a b = dv A sd a b := by
  have e : aW (stW A t d x) a b = aW A a b := by
    funext c e
    rw [aW_st, if_neg h]
  have e1 : aT (stW A t d x) a 0 = aT A a 0 := rfl
  have e2 : wN (stW A t d x) a b = wN A a b := rfl
  unfold wv dv
  rw [e, e1, e2]
  exact ⟨rfl, rfl⟩
theorem SOt_st {x : Nat → Nat → Nat} (h : ¬ (a = t ∧ b = d)) (hs : SOt A sd a b) : SOt (stW A t d x) sd a b := by
  intro c hc
  have := hs c hc
  unfold wait at this ⊢
  rw [aW_st, aW_st, aW_st, aW_st, if_neg h, if_neg h, if_neg h, if_neg h]
  exact this
def mvT (A : Ab) (sd : SD) (t : Nat) : Ab := stW (stW A t 0 (wv A sd t 0)) t 1 (wv A sd t 1)
def mvN (A : Ab) (sd : SD) : Nat → Ab
  | 0 => A
  | n + 1 => mvT (mvN A sd n) sd n
def tot (A : Ab) (sd : SD) : Nat → Nat
  | 0 => 0
  | n + 1 => tot A sd n + dv (mvN A sd n) sd n 0 + dv (mvN A sd n) sd n 1
theorem mvT_1 : (mvT A sd t).1 = A.1 ∧ (mvT A sd t).2.1 = A.2.1 ∧ (mvT A sd t).2.2.2 = A.2.2.2 := ⟨rfl, rfl, rfl⟩
theorem mvN_1 : ∀ n, (mvN A sd n).1 = A.1 ∧ (mvN A sd n).2.1 = A.2.1 ∧ (mvN A sd n).2.2.2 = A.2.2.2
  | 0 => ⟨rfl, rfl, rfl⟩
  | n + 1 => by
    obtain ⟨a, b, c⟩ := mvN_1 n
    exact ⟨a, b, c⟩
theorem mvT_so (hs : SOt A sd a b) (h : ¬ a = t) : SOt (mvT A sd t) sd a b := SOt_st (fun z => h z.1) (SOt_st (fun z => h z.1) hs)
theorem mvT_wf (ht : WFt A) (hu : WFu A) (htt : t < 10) (hs : aT A t 0 = 1 → ∀ d, d < 2 → SOt A sd t d) : WFt (mvT A sd t) ∧ WFu (mvT A sd t) := by
  have u1 := wv_wf ht hu htt (d := 0) (by omega) (fun ho => hs ho 0 (by omega))
  have t1 : WFt (stW A t 0 (wv A sd t 0)) := ht.cg rfl rfl
  have u2 := wv_wf (sd := sd) t1 u1 htt (d := 1) (by omega) (fun ho => SOt_st (by omega) (hs ho 1 (by omega)))
  rw [(wv_st (by omega)).1] at u2
  exact ⟨t1.cg rfl rfl, u2⟩
/-- the tunnels below n have moved -/
def MV (A : Ab) (sd : SD) (n : Nat) : Prop := WFt (mvN A sd n) ∧ WFu (mvN A sd n) ∧ ∀ t d, n ≤ t → t < 10 → d < 2 → aT A t 0 = 1 → SOt (mvN A sd n) sd t d
theorem mvN_wf (ht : WFt A) (hu : WFu A) (hs : SO A sd) : ∀ n, n ≤ 10 → MV A sd n
  | 0, _ => ⟨ht, hu, fun t d _ htt hd ho h hh => by
      have := hs.1 t d h htt ho hd hh
      show _ ≤ wait A t d h ∧ _ ≤ aW A t d h 1 - aW A t d h 2
      omega⟩
  | n + 1, hn => by
    obtain ⟨h1, h2, h3⟩ := mvN_wf ht hu hs n (by omega)
    have e : ∀ t, aT (mvN A sd n) t 0 = aT A t 0 := fun t => by show (mvN A sd n).2.1 t 0 = _; rw [(mvN_1 n).2.1]
    obtain ⟨a, b⟩ := mvT_wf (sd := sd) h1 h2 (show n < 10 by omega) (fun ho d hd => h3 n d (Nat.le_refl _) (by omega) hd (by rw [← e]; exact ho))
    exact ⟨a, b, fun t d x1 x2 x3 x4 => mvT_so (h3 t d (by omega) x2 x3 x4) (by omega)⟩
end TM
