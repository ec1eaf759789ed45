/-! Rows of 64 bits, as the rolls keep them. -/
section BITS
theorem l_amt {n : Nat} (h1 : n < 64) : ((Int32.ofInt (n : Int)).toInt64 &&& 63).toBitVec.smod 64 = BitVec.ofNat 64 n := by
  have : ∀ m : Fin 64, ((Int32.ofInt (m.val : Int)).toInt64 &&& 63).toBitVec.smod 64 = BitVec.ofNat 64 m.val := by decide +kernel
  exact this ⟨n, h1⟩
theorem l_uamt {n : Nat} (h1 : n < 64) : ((Int32.ofInt (n : Int)).toInt64.toUInt64 &&& Int64.toUInt64 63).toBitVec % 64 = BitVec.ofNat 64 n := by
  have : ∀ m : Fin 64, ((Int32.ofInt (m.val : Int)).toInt64.toUInt64 &&& Int64.toUInt64 63).toBitVec % 64 = BitVec.ofNat 64 m.val := by decide +kernel
  exact this ⟨n, h1⟩
def gb (y k : Int) : Bool := (Int64.ofInt y).toBitVec.getLsbD k.toNat
theorem bv_and1 (x : BitVec 64) : x &&& 1#64 = if x.getLsbD 0 = true then 1#64 else 0#64 := by
  apply BitVec.eq_of_getLsbD_eq
  intro i hi
  rw [BitVec.getLsbD_and, BitVec.getLsbD_one]
  by_cases h0 : i = 0
  · subst h0
    cases x.getLsbD 0 <;> simp
  · split <;> simp [h0, BitVec.getLsbD_one]
theorem i64_one : (1 : Int64).toBitVec = 1#64 := rfl
theorem i64_b (b : Bool) : (⟨⟨if b = true then 1#64 else 0#64⟩⟩ : Int64).toInt = if b = true then 1 else 0 := by cases b <;> rfl
theorem j_shr_bit {y k : Int} (h0 : 0 ≤ k) (h1 : k < 64) : j_and (j_shr y k) 1 = if gb y k = true then 1 else 0 := by
  obtain ⟨n, rfl⟩ := Int.eq_ofNat_of_zero_le h0
  have hn : n < 64 := by omega
  unfold j_and j_shr gb
  rw [Int64.ofInt_toInt, ← i64_b]
  congr 1
  apply Int64.toBitVec_inj.mp
  show (Int64.ofInt y >>> ((Int32.ofInt (n : Int)).toInt64 &&& 63)).toBitVec &&& 1#64 = _
  rw [Int64.toBitVec_shiftRight, l_amt hn, bv_and1, BitVec.sshiftRight'_ofNat_eq_sshiftRight, Nat.mod_eq_of_lt (by omega), BitVec.getLsbD_sshiftRight]
  simp [hn]
  rfl
theorem j_ushr_bit {y k : Int} (h0 : 0 ≤ k) (h1 : k < 64) : j_and (j_ushr y k) 1 = if gb y k = true then 1 else 0 := by
  obtain ⟨n, rfl⟩ := Int.eq_ofNat_of_zero_le h0
  have hn : n < 64 := by omega
  unfold j_and j_ushr gb
  rw [Int64.ofInt_toInt, ← i64_b]
  congr 1
  apply Int64.toBitVec_inj.mp
  show ((Int64.ofInt y).toUInt64 >>> ((Int32.ofInt (n : Int)).toInt64.toUInt64 &&& Int64.toUInt64 63)).toBitVec &&& 1#64 = _
  rw [UInt64.toBitVec_shiftRight, l_uamt hn, bv_and1, BitVec.ushiftRight_eq', BitVec.getLsbD_ushiftRight]
  simp [Nat.mod_eq_of_lt (show n < 18446744073709551616 by omega)]
  rfl
theorem gb_shl {k j : Int} (h0 : 0 ≤ k) (h1 : k < 64) (h2 : 0 ≤ j) (h3 : j < 64) : gb (j_shl 1 k) j = decide (j = k) := by
  obtain ⟨n, rfl⟩ := Int.eq_ofNat_of_zero_le h0
  obtain ⟨m, rfl⟩ := Int.eq_ofNat_of_zero_le h2
  have : ∀ (a b : Fin 64), gb (j_shl 1 (a.val : Int)) (b.val : Int) = decide ((b.val : Int) = a.val) := by decide +kernel
  exact this ⟨n, by omega⟩ ⟨m, by omega⟩
theorem gb_or {y z j : Int} : gb (j_or y z) j = (gb y j || gb z j) := by
  unfold gb j_or
  rw [Int64.ofInt_toInt, Int64.toBitVec_or, BitVec.getLsbD_or]
theorem i_cmp_eq {x y : Int} : (i_cmp x y = 0) = (x = y) := by
  unfold i_cmp
  apply propext
  split
  · omega
  · split <;> omega
end BITS
