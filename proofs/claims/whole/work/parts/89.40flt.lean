/-! fault -/
section OF
variable {μ ν : mM} {n : Nat} {tx : Nat → Nat} {L : Nat} {xs : Nat → Int32}
theorem Inv_cgP (hI : Inv L xs μ) (h2 : ν.2 = μ.2) (h : ∀ q j, ¬ ((q = 3 ∧ 8 ≤ j) ∨ (5 ≤ q ∧ q ≤ 10) ∨ (q = 200 ∧ j = 11) ∨ (207 ≤ q ∧ q ≤ 212)) → mI ν q j = mI μ q j) : Inv L xs ν := by
  obtain ⟨⟨i1, i2⟩, ⟨A, ⟨hK, hC, hM, ht, hu⟩, hZ⟩, ⟨n, n1, n2, n3, n4⟩, hsl, hBZ⟩ := hI
  have eS : mS ν = mS μ := by show ν.2.2.2.2.1 = _; rw [h2]
  have eP : mP ν = mP μ := by show ν.2.2.2.1 = _; rw [h2]
  have eF : mF ν = mF μ := by show ν.2.1 = _; rw [h2]
  have row : ∀ q, ¬ (q = 3 ∨ (5 ≤ q ∧ q ≤ 10) ∨ q = 200 ∨ (207 ≤ q ∧ q ≤ 212)) → mI ν q = mI μ q := fun q hq => by
    funext j; exact h q j (by omega)
  refine ⟨⟨by rw [eS]; exact i1, by rw [row 1 (by omega)]; exact i2⟩, ⟨A, ⟨by rw [eS, eP]; exact hK, ⟨by rw [eS, eP]; exact hC.1, hC.2.congr (fun q a b => row q (by omega)) (fun q a b => by rw [eF])⟩, ?_, ht, hu⟩, ?_⟩, ⟨n, n1, ?_, ?_, fun j hj => ?_⟩, hsl.cg (by rw [h2]) (fun q hq => ⟨row q (by omega), by rw [eF]⟩), hBZ.cg (fun r hr => by rw [row _ (by unfold ro; omega)]) (fun t d a b => by rw [row _ (by unfold wy; omega)])⟩
  · unfold RS
    rw [eS, eP, eF, row 201 (by omega)]; exact hM
  · intro t d k a b c e
    rw [row _ (by unfold wy; omega)]; exact hZ t d k a b c e
  · rw [h 3 1 (by omega)]; exact n2
  · rw [h 200 6 (by omega)]; exact n3
  · rw [row 4 (by omega), row 206 (by omega)]; exact n4 j hj
theorem TextOK_tx (h : TextOK μ) : ∃ n tx, n ≤ 60 ∧ (∀ j, j < n → tx j ≤ 127) ∧ TxC μ n tx ∧ TxR μ n tx := by
  obtain ⟨n, n1, n2, n3, n4⟩ := h
  refine ⟨n, fun j => Int32.toNatClampNeg (mI μ 4 j), n1, fun j hj => ?_, ⟨n2, fun j hj => ?_⟩, ⟨n3, fun j hj => ?_⟩⟩
  · obtain ⟨c, c1, c2, c3⟩ := n4 j hj
    show Int32.toNatClampNeg (mI μ 4 j) ≤ 127
    rw [c2, m_cl (by omega)]; exact c1
  · obtain ⟨c, c1, c2, c3⟩ := n4 j hj
    show _ = nI (Int32.toNatClampNeg (mI μ 4 j))
    rw [c2, m_cl (by omega)]
  · obtain ⟨c, c1, c2, c3⟩ := n4 j hj
    show _ = nI (Int32.toNatClampNeg (mI μ 4 j))
    rw [c2, m_cl (by omega), c3]
theorem TxR.fp (h : TxR μ n tx) (hf : FrP μ ν) : TxR ν n tx := ⟨by rw [hf.2 200 6 (by omega)]; exact h.1, fun j hj => by rw [hf.2 206 j (by omega)]; exact h.2 j hj⟩
theorem op2 : Op2 (Inv L xs) := fun μ hI => by
  obtain ⟨⟨i1, i2⟩, ⟨A, ⟨hK, hC, hM, ht, hu⟩, hZ⟩, hT, hsl, hBZ⟩ := id hI
  obtain ⟨n, tx, n1, n2, n3, n4⟩ := TextOK_tx hT
  have hP := ClsL.pl hK
  obtain ⟨ν, e1, f1, -⟩ := j61 hP n1 n2 n3
  obtain ⟨ρ, e2, f2, -⟩ := k177 (hM.1.fq f1.1) n1 n2 (n4.fp f1)
  have eS : mS ν = mS μ := by show ν.2.2.2.2.1 = _; rw [f1.1]
  refine ⟨vP tx n, ν, ρ, ?_, ⟨by rw [eS], by funext j; exact f1.2 1 j (by omega), by rw [eS, RefL.s hM.1]⟩, e2, Inv_cgP hI (f2.1.trans f1.1) (fun q j hq => ?_)⟩
  · show s99 μ 2 = _
    unfold s99
    exact iteT (by rw [ClsL.s hK]) (iteT (by rw [ClsL.p0 hK, hP.1]) (bindS (by rw [ClsL.p0 hK]; exact e1) rfl))
  · rw [f2.2 q j (by omega), f1.2 q j (by omega)]
end OF
