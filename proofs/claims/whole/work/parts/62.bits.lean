/-! an entry in one number -/
theorem sh8 : (((Int32.toInt64 8 &&& 63) : Int64).toBitVec.smod 64).toNat = 8 := by decide
theorem l_shr (w : Int64) : (w >>> (Int32.toInt64 8 &&& 63)).toInt = w.toInt / 256 := by
  show (w.toBitVec.sshiftRight (((Int32.toInt64 8 &&& 63) : Int64).toBitVec.smod 64).toNat).toInt = _
  rw [sh8, BitVec.toInt_sshiftRight, Int.shiftRight_eq_div_pow]
  rfl
theorem l2i_rng {x : Int64} (h1 : -2147483648 ≤ x.toInt) (h2 : x.toInt < 2147483648) : (Int64.toInt32 x).toInt = x.toInt := by
  rw [Int64.toInt_toInt32]
  exact Int.bmod_eq_of_le (by simpa using h1) (by simpa using h2)
theorem key_of {w : Int64} {k : Int32} {m : Int} (hw : w.toInt = k.toInt * 256 + m) (h0 : 0 ≤ m) (h1 : m < 256) : Int64.toInt32 (w >>> (Int32.toInt64 8 &&& 63)) = k := by
  have r1 := Int32.le_toInt k
  have r2 := Int32.toInt_lt k
  have e : (w >>> (Int32.toInt64 8 &&& 63)).toInt = k.toInt := by
    rw [l_shr, hw]
    omega
  apply Int32.toInt_inj.mp
  rw [l2i_rng (by rw [e]; simpa using r1) (by rw [e]; simpa using r2), e]
theorem and255 (w : Int64) : (w &&& 255).toInt = w.toInt % 256 := by
  have h1 : (w &&& 255).toBitVec.toNat = w.toBitVec.toNat % 256 := by
    rw [Int64.toBitVec_and, BitVec.toNat_and]
    show w.toBitVec.toNat &&& (2 ^ 8 - 1) = _
    rw [Nat.and_two_pow_sub_one_eq_mod]
  have h2 : (w &&& 255).toInt = ((w.toBitVec.toNat % 256 : Nat) : Int) := by
    show (w &&& 255).toBitVec.toInt = _
    rw [BitVec.toInt_eq_toNat_of_lt (by rw [h1]; omega), h1]
  rw [h2]
  have h3 : w.toInt = w.toBitVec.toInt := rfl
  rw [h3, BitVec.toInt_eq_toNat_cond]
  have := w.toBitVec.isLt
  split <;> omega
theorem place_of {w : Int64} {k : Int} {m : Nat} (hw : w.toInt = k * 256 + m) (h1 : m < 256) : Int64.toInt32 (w &&& 255) = nI m := by
  have e : (w &&& 255).toInt = (m : Int) := by
    rw [and255, hw]
    omega
  exact l2i_nI e (by omega)
theorem ent_of (k : Int32) {m : Nat} (hm : m < 256) : (((Int32.toInt64 k) <<< (Int32.toInt64 8 &&& 63)) ||| (Int32.toInt64 (nI m))).toInt = k.toInt * 256 + m := by
  have r1 := Int32.le_toInt k
  have r2 := Int32.toInt_lt k
  have r1 : -2147483648 ≤ k.toInt := by simpa using r1
  have r2 : k.toInt < 2147483648 := by simpa using r2
  have hx : (Int32.toInt64 k).toInt = k.toInt := Int32.toInt_toInt64 k
  have hp : (Int32.toInt64 (nI m)).toInt = (m : Int) := i2l_nI (by omega)
  generalize Int32.toInt64 k = x at hx ⊢
  generalize Int32.toInt64 (nI m) = y at hp ⊢
  have hx2 : x.toBitVec.toInt = k.toInt := hx
  have hy2 : y.toBitVec.toInt = (m : Int) := hp
  have hyn : y.toBitVec.toNat = m := by
    rw [BitVec.toInt_eq_toNat_cond] at hy2
    have := y.toBitVec.isLt
    split at hy2 <;> omega
  have hsn : (x <<< (Int32.toInt64 8 &&& 63)).toBitVec.toNat = x.toBitVec.toNat * 256 % 2 ^ 64 := by
    show (x.toBitVec <<< (((Int32.toInt64 8 &&& 63) : Int64).toBitVec.smod 64).toNat).toNat = _
    rw [sh8, BitVec.toNat_shiftLeft, Nat.shiftLeft_eq]
  have hn : ((x <<< (Int32.toInt64 8 &&& 63)) ||| y).toBitVec.toNat = x.toBitVec.toNat * 256 % 2 ^ 64 + m := by
    rw [Int64.toBitVec_or, BitVec.toNat_or, hsn, hyn]
    have e : x.toBitVec.toNat * 256 % 2 ^ 64 = (x.toBitVec.toNat % 2 ^ 56) <<< 8 := by
      rw [Nat.shiftLeft_eq]
      omega
    rw [e]
    exact (Nat.shiftLeft_add_eq_or_of_lt (show m < 2 ^ 8 by omega) _).symm
  show ((x <<< (Int32.toInt64 8 &&& 63)) ||| y).toBitVec.toInt = _
  rw [BitVec.toInt_eq_toNat_cond, hn]
  rw [BitVec.toInt_eq_toNat_cond] at hx2
  have := x.toBitVec.isLt
  split at hx2 <;> split <;> omega
