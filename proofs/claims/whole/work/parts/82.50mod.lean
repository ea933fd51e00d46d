/-! TunnelFabricModel(): the reference; the memory at the law's loop -/
def RefL (S : LyS) (P : LyP) : Prop := S 200 = (9, 21) ∧ P 200 0 = 201 ∧ P 200 1 = 202 ∧ P 200 2 = 203 ∧ P 200 3 = 204 ∧ P 200 4 = 205 ∧ P 200 5 = 206 ∧ P 200 7 = 207 ∧ P 200 8 = 208 ∧ P 200 9 = 209 ∧ P 200 10 = 210 ∧ P 200 12 = 211 ∧ P 200 13 = 212 ∧ P 200 14 = 213 ∧ P 200 15 = 214 ∧ P 200 16 = 215 ∧ P 200 17 = 216 ∧ P 200 18 = 217 ∧ P 200 19 = 218 ∧ S 201 = (10, 433) ∧ S 202 = (11, 16) ∧ S 203 = (10, 866) ∧ S 204 = (11, 32) ∧ S 205 = (12, 2) ∧ S 206 = (10, 60) ∧ S 207 = (10, 8) ∧ S 208 = (10, 8) ∧ S 209 = (10, 8) ∧ S 210 = (10, 8) ∧ S 211 = (10, 6) ∧ S 212 = (10, 6) ∧ S 213 = (10, 80) ∧ S 214 = (10, 16) ∧ S 215 = (11, 8) ∧ S 216 = (11, 10) ∧ S 217 = (12, 10) ∧ S 218 = (10, 10)
theorem f_2 : Int32.toNatClampNeg 2 = 2 := rfl
theorem f_6 : Int32.toNatClampNeg 6 = 6 := rfl
theorem f_8 : Int32.toNatClampNeg 8 = 8 := rfl
theorem f_10 : Int32.toNatClampNeg 10 = 10 := rfl
theorem f_16 : Int32.toNatClampNeg 16 = 16 := rfl
theorem f_32 : Int32.toNatClampNeg 32 = 32 := rfl
theorem f_60 : Int32.toNatClampNeg 60 = 60 := rfl
theorem f_80 : Int32.toNatClampNeg 80 = 80 := rfl
theorem f_433 : Int32.toNatClampNeg 433 = 433 := rfl
theorem f_866 : Int32.toNatClampNeg 866 = 866 := rfl
theorem f_0 : Int32.toNatClampNeg 0 = 0 := rfl
theorem f_431 : Int32.toNatClampNeg 431 = 431 := rfl
theorem f_1 : Int32.toNatClampNeg 1 = 1 := rfl
/-- the stages of the model's memory -/
def rC1 (μ : mM) : mM := mFld μ 200 0 10 433
def rC2 (μ : mM) : mM := mFld (rC1 μ) 200 1 11 16
def rC3 (μ : mM) : mM := mFld (rC2 μ) 200 2 10 866
def rC4 (μ : mM) : mM := mFld (rC3 μ) 200 3 11 32
def rC5 (μ : mM) : mM := mFld (rC4 μ) 200 4 12 2
def rC6 (μ : mM) : mM := mFld (rC5 μ) 200 5 10 60
def rC7 (μ : mM) : mM := mFld (rC6 μ) 200 7 10 8
def rC8 (μ : mM) : mM := mFld (rC7 μ) 200 8 10 8
def rC9 (μ : mM) : mM := mFld (rC8 μ) 200 9 10 8
def rC10 (μ : mM) : mM := mFld (rC9 μ) 200 10 10 8
def rC11 (μ : mM) : mM := mFld (rC10 μ) 200 12 10 6
def rC12 (μ : mM) : mM := mFld (rC11 μ) 200 13 10 6
def rC13 (μ : mM) : mM := mFld (rC12 μ) 200 14 10 80
def rC14 (μ : mM) : mM := mFld (rC13 μ) 200 15 10 16
def rC15 (μ : mM) : mM := mFld (rC14 μ) 200 16 11 8
def rC16 (μ : mM) : mM := mFld (rC15 μ) 200 17 11 10
def rC17 (μ : mM) : mM := mFld (rC16 μ) 200 18 12 10
def rC18 (μ : mM) : mM := mFld (rC17 μ) 200 19 10 10
def rCe (μ : mM) : mM := mUI (mUI (mUI (mUI (rC18 μ) 201 0 1) 201 1 4) 201 2 3) 201 431 3
section RC
variable {μ : mM} (hS : mS μ 200 = (9, 21)) (hN : mNx μ = 201)
theorem nC0 (hN : mNx μ = 201) : mNx μ = 201 := hN
theorem nC1 (hN : mNx μ = 201) : mNx (rC1 μ) = 202 := by rw [rC1, mNx_fld, nC0 hN]
theorem nC2 (hN : mNx μ = 201) : mNx (rC2 μ) = 203 := by rw [rC2, mNx_fld, nC1 hN]
theorem nC3 (hN : mNx μ = 201) : mNx (rC3 μ) = 204 := by rw [rC3, mNx_fld, nC2 hN]
theorem nC4 (hN : mNx μ = 201) : mNx (rC4 μ) = 205 := by rw [rC4, mNx_fld, nC3 hN]
theorem nC5 (hN : mNx μ = 201) : mNx (rC5 μ) = 206 := by rw [rC5, mNx_fld, nC4 hN]
theorem nC6 (hN : mNx μ = 201) : mNx (rC6 μ) = 207 := by rw [rC6, mNx_fld, nC5 hN]
theorem nC7 (hN : mNx μ = 201) : mNx (rC7 μ) = 208 := by rw [rC7, mNx_fld, nC6 hN]
theorem nC8 (hN : mNx μ = 201) : mNx (rC8 μ) = 209 := by rw [rC8, mNx_fld, nC7 hN]
theorem nC9 (hN : mNx μ = 201) : mNx (rC9 μ) = 210 := by rw [rC9, mNx_fld, nC8 hN]
theorem nC10 (hN : mNx μ = 201) : mNx (rC10 μ) = 211 := by rw [rC10, mNx_fld, nC9 hN]
theorem nC11 (hN : mNx μ = 201) : mNx (rC11 μ) = 212 := by rw [rC11, mNx_fld, nC10 hN]
theorem nC12 (hN : mNx μ = 201) : mNx (rC12 μ) = 213 := by rw [rC12, mNx_fld, nC11 hN]
theorem nC13 (hN : mNx μ = 201) : mNx (rC13 μ) = 214 := by rw [rC13, mNx_fld, nC12 hN]
theorem nC14 (hN : mNx μ = 201) : mNx (rC14 μ) = 215 := by rw [rC14, mNx_fld, nC13 hN]
theorem nC15 (hN : mNx μ = 201) : mNx (rC15 μ) = 216 := by rw [rC15, mNx_fld, nC14 hN]
theorem nC16 (hN : mNx μ = 201) : mNx (rC16 μ) = 217 := by rw [rC16, mNx_fld, nC15 hN]
theorem nC17 (hN : mNx μ = 201) : mNx (rC17 μ) = 218 := by rw [rC17, mNx_fld, nC16 hN]
theorem nC18 (hN : mNx μ = 201) : mNx (rC18 μ) = 219 := by rw [rC18, mNx_fld, nC17 hN]
theorem sC0 (hS : mS μ 200 = (9, 21)) (hN : mNx μ = 201) : mS μ 200 = (9, 21) := hS
theorem sC1 (hS : mS μ 200 = (9, 21)) (hN : mNx μ = 201) : mS (rC1 μ) 200 = (9, 21) := by rw [rC1, mS_fld, nC0 hN, if_neg (by omega)]; exact sC0 hS hN
theorem sC2 (hS : mS μ 200 = (9, 21)) (hN : mNx μ = 201) : mS (rC2 μ) 200 = (9, 21) := by rw [rC2, mS_fld, nC1 hN, if_neg (by omega)]; exact sC1 hS hN
theorem sC3 (hS : mS μ 200 = (9, 21)) (hN : mNx μ = 201) : mS (rC3 μ) 200 = (9, 21) := by rw [rC3, mS_fld, nC2 hN, if_neg (by omega)]; exact sC2 hS hN
theorem sC4 (hS : mS μ 200 = (9, 21)) (hN : mNx μ = 201) : mS (rC4 μ) 200 = (9, 21) := by rw [rC4, mS_fld, nC3 hN, if_neg (by omega)]; exact sC3 hS hN
theorem sC5 (hS : mS μ 200 = (9, 21)) (hN : mNx μ = 201) : mS (rC5 μ) 200 = (9, 21) := by rw [rC5, mS_fld, nC4 hN, if_neg (by omega)]; exact sC4 hS hN
theorem sC6 (hS : mS μ 200 = (9, 21)) (hN : mNx μ = 201) : mS (rC6 μ) 200 = (9, 21) := by rw [rC6, mS_fld, nC5 hN, if_neg (by omega)]; exact sC5 hS hN
theorem sC7 (hS : mS μ 200 = (9, 21)) (hN : mNx μ = 201) : mS (rC7 μ) 200 = (9, 21) := by rw [rC7, mS_fld, nC6 hN, if_neg (by omega)]; exact sC6 hS hN
theorem sC8 (hS : mS μ 200 = (9, 21)) (hN : mNx μ = 201) : mS (rC8 μ) 200 = (9, 21) := by rw [rC8, mS_fld, nC7 hN, if_neg (by omega)]; exact sC7 hS hN
theorem sC9 (hS : mS μ 200 = (9, 21)) (hN : mNx μ = 201) : mS (rC9 μ) 200 = (9, 21) := by rw [rC9, mS_fld, nC8 hN, if_neg (by omega)]; exact sC8 hS hN
theorem sC10 (hS : mS μ 200 = (9, 21)) (hN : mNx μ = 201) : mS (rC10 μ) 200 = (9, 21) := by rw [rC10, mS_fld, nC9 hN, if_neg (by omega)]; exact sC9 hS hN
theorem sC11 (hS : mS μ 200 = (9, 21)) (hN : mNx μ = 201) : mS (rC11 μ) 200 = (9, 21) := by rw [rC11, mS_fld, nC10 hN, if_neg (by omega)]; exact sC10 hS hN
theorem sC12 (hS : mS μ 200 = (9, 21)) (hN : mNx μ = 201) : mS (rC12 μ) 200 = (9, 21) := by rw [rC12, mS_fld, nC11 hN, if_neg (by omega)]; exact sC11 hS hN
theorem sC13 (hS : mS μ 200 = (9, 21)) (hN : mNx μ = 201) : mS (rC13 μ) 200 = (9, 21) := by rw [rC13, mS_fld, nC12 hN, if_neg (by omega)]; exact sC12 hS hN
theorem sC14 (hS : mS μ 200 = (9, 21)) (hN : mNx μ = 201) : mS (rC14 μ) 200 = (9, 21) := by rw [rC14, mS_fld, nC13 hN, if_neg (by omega)]; exact sC13 hS hN
theorem sC15 (hS : mS μ 200 = (9, 21)) (hN : mNx μ = 201) : mS (rC15 μ) 200 = (9, 21) := by rw [rC15, mS_fld, nC14 hN, if_neg (by omega)]; exact sC14 hS hN
theorem sC16 (hS : mS μ 200 = (9, 21)) (hN : mNx μ = 201) : mS (rC16 μ) 200 = (9, 21) := by rw [rC16, mS_fld, nC15 hN, if_neg (by omega)]; exact sC15 hS hN
theorem sC17 (hS : mS μ 200 = (9, 21)) (hN : mNx μ = 201) : mS (rC17 μ) 200 = (9, 21) := by rw [rC17, mS_fld, nC16 hN, if_neg (by omega)]; exact sC16 hS hN
theorem sC18 (hS : mS μ 200 = (9, 21)) (hN : mNx μ = 201) : mS (rC18 μ) 200 = (9, 21) := by rw [rC18, mS_fld, nC17 hN, if_neg (by omega)]; exact sC17 hS hN
theorem gC0 (hS : mS μ 200 = (9, 21)) (hN : mNx μ = 201) : mS (mNew μ 10 433) 200 = (9, 21) := by rw [mS_Nw, nC0 hN, if_neg (by omega)]; exact sC0 hS hN
theorem uC0 (hN : mNx μ = 201) : mUP (mNew μ 10 433) 200 0 201 = rC1 μ := by rw [rC1, mFld, nC0 hN]
theorem gC1 (hS : mS μ 200 = (9, 21)) (hN : mNx μ = 201) : mS (mNew (rC1 μ) 11 16) 200 = (9, 21) := by rw [mS_Nw, nC1 hN, if_neg (by omega)]; exact sC1 hS hN
theorem uC1 (hN : mNx μ = 201) : mUP (mNew (rC1 μ) 11 16) 200 1 202 = rC2 μ := by rw [rC2, mFld, nC1 hN]
theorem gC2 (hS : mS μ 200 = (9, 21)) (hN : mNx μ = 201) : mS (mNew (rC2 μ) 10 866) 200 = (9, 21) := by rw [mS_Nw, nC2 hN, if_neg (by omega)]; exact sC2 hS hN
theorem uC2 (hN : mNx μ = 201) : mUP (mNew (rC2 μ) 10 866) 200 2 203 = rC3 μ := by rw [rC3, mFld, nC2 hN]
theorem gC3 (hS : mS μ 200 = (9, 21)) (hN : mNx μ = 201) : mS (mNew (rC3 μ) 11 32) 200 = (9, 21) := by rw [mS_Nw, nC3 hN, if_neg (by omega)]; exact sC3 hS hN
theorem uC3 (hN : mNx μ = 201) : mUP (mNew (rC3 μ) 11 32) 200 3 204 = rC4 μ := by rw [rC4, mFld, nC3 hN]
theorem gC4 (hS : mS μ 200 = (9, 21)) (hN : mNx μ = 201) : mS (mNew (rC4 μ) 12 2) 200 = (9, 21) := by rw [mS_Nw, nC4 hN, if_neg (by omega)]; exact sC4 hS hN
theorem uC4 (hN : mNx μ = 201) : mUP (mNew (rC4 μ) 12 2) 200 4 205 = rC5 μ := by rw [rC5, mFld, nC4 hN]
theorem gC5 (hS : mS μ 200 = (9, 21)) (hN : mNx μ = 201) : mS (mNew (rC5 μ) 10 60) 200 = (9, 21) := by rw [mS_Nw, nC5 hN, if_neg (by omega)]; exact sC5 hS hN
theorem uC5 (hN : mNx μ = 201) : mUP (mNew (rC5 μ) 10 60) 200 5 206 = rC6 μ := by rw [rC6, mFld, nC5 hN]
theorem gC6 (hS : mS μ 200 = (9, 21)) (hN : mNx μ = 201) : mS (mNew (rC6 μ) 10 8) 200 = (9, 21) := by rw [mS_Nw, nC6 hN, if_neg (by omega)]; exact sC6 hS hN
theorem uC6 (hN : mNx μ = 201) : mUP (mNew (rC6 μ) 10 8) 200 7 207 = rC7 μ := by rw [rC7, mFld, nC6 hN]
theorem gC7 (hS : mS μ 200 = (9, 21)) (hN : mNx μ = 201) : mS (mNew (rC7 μ) 10 8) 200 = (9, 21) := by rw [mS_Nw, nC7 hN, if_neg (by omega)]; exact sC7 hS hN
theorem uC7 (hN : mNx μ = 201) : mUP (mNew (rC7 μ) 10 8) 200 8 208 = rC8 μ := by rw [rC8, mFld, nC7 hN]
theorem gC8 (hS : mS μ 200 = (9, 21)) (hN : mNx μ = 201) : mS (mNew (rC8 μ) 10 8) 200 = (9, 21) := by rw [mS_Nw, nC8 hN, if_neg (by omega)]; exact sC8 hS hN
theorem uC8 (hN : mNx μ = 201) : mUP (mNew (rC8 μ) 10 8) 200 9 209 = rC9 μ := by rw [rC9, mFld, nC8 hN]
theorem gC9 (hS : mS μ 200 = (9, 21)) (hN : mNx μ = 201) : mS (mNew (rC9 μ) 10 8) 200 = (9, 21) := by rw [mS_Nw, nC9 hN, if_neg (by omega)]; exact sC9 hS hN
theorem uC9 (hN : mNx μ = 201) : mUP (mNew (rC9 μ) 10 8) 200 10 210 = rC10 μ := by rw [rC10, mFld, nC9 hN]
theorem gC10 (hS : mS μ 200 = (9, 21)) (hN : mNx μ = 201) : mS (mNew (rC10 μ) 10 6) 200 = (9, 21) := by rw [mS_Nw, nC10 hN, if_neg (by omega)]; exact sC10 hS hN
theorem uC10 (hN : mNx μ = 201) : mUP (mNew (rC10 μ) 10 6) 200 12 211 = rC11 μ := by rw [rC11, mFld, nC10 hN]
theorem gC11 (hS : mS μ 200 = (9, 21)) (hN : mNx μ = 201) : mS (mNew (rC11 μ) 10 6) 200 = (9, 21) := by rw [mS_Nw, nC11 hN, if_neg (by omega)]; exact sC11 hS hN
theorem uC11 (hN : mNx μ = 201) : mUP (mNew (rC11 μ) 10 6) 200 13 212 = rC12 μ := by rw [rC12, mFld, nC11 hN]
theorem gC12 (hS : mS μ 200 = (9, 21)) (hN : mNx μ = 201) : mS (mNew (rC12 μ) 10 80) 200 = (9, 21) := by rw [mS_Nw, nC12 hN, if_neg (by omega)]; exact sC12 hS hN
theorem uC12 (hN : mNx μ = 201) : mUP (mNew (rC12 μ) 10 80) 200 14 213 = rC13 μ := by rw [rC13, mFld, nC12 hN]
theorem gC13 (hS : mS μ 200 = (9, 21)) (hN : mNx μ = 201) : mS (mNew (rC13 μ) 10 16) 200 = (9, 21) := by rw [mS_Nw, nC13 hN, if_neg (by omega)]; exact sC13 hS hN
theorem uC13 (hN : mNx μ = 201) : mUP (mNew (rC13 μ) 10 16) 200 15 214 = rC14 μ := by rw [rC14, mFld, nC13 hN]
theorem gC14 (hS : mS μ 200 = (9, 21)) (hN : mNx μ = 201) : mS (mNew (rC14 μ) 11 8) 200 = (9, 21) := by rw [mS_Nw, nC14 hN, if_neg (by omega)]; exact sC14 hS hN
theorem uC14 (hN : mNx μ = 201) : mUP (mNew (rC14 μ) 11 8) 200 16 215 = rC15 μ := by rw [rC15, mFld, nC14 hN]
theorem gC15 (hS : mS μ 200 = (9, 21)) (hN : mNx μ = 201) : mS (mNew (rC15 μ) 11 10) 200 = (9, 21) := by rw [mS_Nw, nC15 hN, if_neg (by omega)]; exact sC15 hS hN
theorem uC15 (hN : mNx μ = 201) : mUP (mNew (rC15 μ) 11 10) 200 17 216 = rC16 μ := by rw [rC16, mFld, nC15 hN]
theorem gC16 (hS : mS μ 200 = (9, 21)) (hN : mNx μ = 201) : mS (mNew (rC16 μ) 12 10) 200 = (9, 21) := by rw [mS_Nw, nC16 hN, if_neg (by omega)]; exact sC16 hS hN
theorem uC16 (hN : mNx μ = 201) : mUP (mNew (rC16 μ) 12 10) 200 18 217 = rC17 μ := by rw [rC17, mFld, nC16 hN]
theorem gC17 (hS : mS μ 200 = (9, 21)) (hN : mNx μ = 201) : mS (mNew (rC17 μ) 10 10) 200 = (9, 21) := by rw [mS_Nw, nC17 hN, if_neg (by omega)]; exact sC17 hS hN
theorem uC17 (hN : mNx μ = 201) : mUP (mNew (rC17 μ) 10 10) 200 19 218 = rC18 μ := by rw [rC18, mFld, nC17 hN]
theorem RefL_new (hS : mS μ 200 = (9, 21)) (hN : mNx μ = 201) : RefL (mS (rC18 μ)) (mP (rC18 μ)) := by
  simp [RefL, rC1, rC2, rC3, rC4, rC5, rC6, rC7, rC8, rC9, rC10, rC11, rC12, rC13, rC14, rC15, rC16, rC17, rC18, mS_fld, mP_fld, mNx_fld, hN, hS]
theorem c143 (hS : mS μ 200 = (9, 21)) (hN : mNx μ = 201) : s143 μ 200 = some (rCe μ) := by
  have hL := RefL_new hS hN
  have p0 : mP (rC18 μ) 200 0 = 201 := hL.2.1
  have s1 : mS (rC18 μ) 201 = (10, 433) := hL.2.2.2.2.2.2.2.2.2.2.2.2.2.2.2.2.2.2.2.1
  have i0 : mInb 0 433 := mInb_nI (j := 0) (n := 433) (by omega) (by omega)
  have i1 : mInb 1 433 := mInb_nI (j := 1) (n := 433) (by omega) (by omega)
  have i2 : mInb 2 433 := mInb_nI (j := 2) (n := 433) (by omega) (by omega)
  have i3 : mInb 431 433 := mInb_nI (j := 431) (n := 433) (by omega) (by omega)
  have h0 : (¬ (200 : Nat) = 0) = True := by simp
  simp only [s143, h0, if_true, Option.bind_some, f_2, f_16, f_32, f_60, f_433, f_866, gC0 hS hN, gC1 hS hN, gC2 hS hN, gC3 hS hN, gC4 hS hN, gC5 hS hN, nC0 hN, nC1 hN, nC2 hN, nC3 hN, nC4 hN, nC5 hN, uC0 hN, uC1 hN, uC2 hN, uC3 hN, uC4 hN, uC5 hN]
  simp only [if_true, Option.bind_some, f_6, f_8, gC6 hS hN, gC7 hS hN, gC8 hS hN, gC9 hS hN, gC10 hS hN, gC11 hS hN, nC6 hN, nC7 hN, nC8 hN, nC9 hN, nC10 hN, nC11 hN, uC6 hN, uC7 hN, uC8 hN, uC9 hN, uC10 hN, uC11 hN]
  simp only [if_true, Option.bind_some, f_8, f_10, f_16, f_80, gC12 hS hN, gC13 hS hN, gC14 hS hN, gC15 hS hN, gC16 hS hN, gC17 hS hN, nC12 hN, nC13 hN, nC14 hN, nC15 hN, nC16 hN, nC17 hN, uC12 hN, uC13 hN, uC14 hN, uC15 hN, uC16 hN, uC17 hN]
  simp only [mS_UI, mP_UI, p0, s1, f_0, f_1, f_2, f_431, Option.bind_some]
  rw [if_pos ⟨trivial, i0⟩, if_pos ⟨trivial, i1⟩, if_pos ⟨trivial, i2⟩, if_pos ⟨trivial, i3⟩]
  rfl
end RC
