/-! Rows of 64 bits, as the rolls keep them. -/
section BITS
theorem l_sh {k : Int} (h0 : 0 ≤ k) (h1 : k < 64) : ((Int32.ofInt k).toInt64 &&& 63) = Int64.ofInt k := by
  have h : k = 0 ∨ 0 < k := by omega
  obtain ⟨n, rfl⟩ := Int.eq_ofNat_of_zero_le h0
  have hn : n < 64 := by omega
  have : ∀ m : Fin 64, ((Int32.ofInt (m.val : Int)).toInt64 &&& 63) = Int64.ofInt (m.val : Int) := by decide +kernel
  exact this ⟨n, hn⟩
end BITS
