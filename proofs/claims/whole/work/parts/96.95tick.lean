/-! the tick: settled links are well formed -/
section TX
variable {A : Ab} {r v : Nat} {qt : Bool}
theorem set6_wf (ht : WFt A) (hu : WFu A) (hv : v ≤ 2) : WFt (setR A r 6 v) ∧ WFu (setR A r 6 v) := by
  refine ⟨ht.cgR (fun q k hk => by rw [aR_setR, if_neg (by omega)]) (fun q q1 q8 hq => ?_), wfu_cgR hu (fun q k hk => by rw [aR_setR, if_neg (by omega)]) rfl rfl hu.2.1 (fun q q1 q8 hq => ?_)⟩
  · obtain ⟨-, -, -, -, -, -, -, -, y5, y6, y9, y10, y8, yl⟩ := ht.w q1 q8 hq
    refine ⟨by rw [aR_setR, if_neg (by omega)]; exact y5, ?_, by rw [aR_setR, if_neg (by omega)]; exact y9, by rw [aR_setR, if_neg (by omega)]; exact y10, ?_, yl⟩
    · rw [aR_setR]; split <;> omega
    · rw [aR_setR, aR_setR, if_neg (show ¬ (q = r ∧ 8 = 6) by omega)]
      split
      · intro z; omega
      · exact y8
  · rw [cap_cg (A := A) (A' := setR A r 6 v) (fun q => by rw [aR_setR, if_neg (by omega)]) (fun q => by rw [aR_setR, if_neg (by omega)]) (by rw [aR_setR, if_neg (by omega)])]; exact hu.rsv q1 q8 hq
theorem stl_wf (ht : WFt A) (hu : WFu A) : WFt (stl A r qt) ∧ WFu (stl A r qt) := by
  obtain ⟨t1, u1⟩ := set7_wf (r := r) (v := idl A r qt) ht hu
  unfold stl
  split
  · exact set6_wf t1 u1 (by split <;> omega)
  · split
    · split
      · exact ⟨t1, u1⟩
      · split
        · exact ⟨t1, u1⟩
        · exact set6_wf t1 u1 (by omega)
    · exact ⟨t1, u1⟩
end TX
