/-! The reference's words, NUMBERS and signs: what stands next, and taking it. -/
section MTOK
variable {N : Nat} {s u v : gI} {F G A B C : Int → Int} {n e st lo hi c m zn : Int} {r i w : Nat}
/-- the reference stands at number i, nothing is wrong yet -/
def mAt (F : Int → Int) (n : Int) (i : Nat) (s : gI) : Prop := tks F n (s.1 65) (s.1 66) (s.2 67) 1002 ∧ s.1 63 7 = i ∧ s.1 63 8 = 0 ∧ lv F n i ∧ ∀ j : Nat, j < 28 → s.2 68 j = wordsT.getD j 0
/-- something is wrong already -/
def mBad (z : Int) (s : gI) : Prop := s.1 63 8 = z ∧ 0 < z ∧ 0 ≤ s.1 63 7 ∧ s.1 63 7 ≤ 1001
theorem iw_self' {a : Nat} {x : Int} : iw s a x (s.1 a x) = s := by
  rw [iw_ic, zup_self, ic_self]
theorem mAt_i (hT : tpF F n) (h : mAt F n i s) : (i : Int) ≤ 1000 ∧ i < 1002 := by
  have := lv_mx hT.1.1 h.2.2.2.1
  have := hT.1.2
  omega
theorem mAt.of (h : mAt F n i s) (e65 : v.1 65 = s.1 65) (e66 : v.1 66 = s.1 66) (e67 : v.2 67 = s.2 67) (e68 : v.2 68 = s.2 68) (e7 : v.1 63 7 = s.1 63 7) (e8 : v.1 63 8 = s.1 63 8) : mAt F n i v := by
  unfold mAt
  rw [e65, e66, e67, e68, e7, e8]
  exact h
theorem mAt_up (h : mAt F n i s) (k : tK F n (tP F n i) ≠ 0) : mAt F n (i + 1) (iw s 63 7 ((i : Int) + 1)) := by
  obtain ⟨h1, h2, h3, h4, h5⟩ := h
  refine ⟨?_, ?_, ?_, lv_s h4 k, h5⟩
  · rw [iw_ne (by decide), iw_ne (by decide), iw_2]; exact h1
  · rw [iw_at, zup_same]; omega
  · rw [iw_at, zup_ne (by decide)]; exact h3
theorem mAt_k (hT : tpF F n) (h : mAt F n i s) : s.1 65 i = mso (tK F n (tP F n i)) ∧ s.1 66 i = tP F n i ∧ (2 ≤ tK F n (tP F n i) → s.2 67 i = tV F n (tP F n i)) := h.1 i (mAt_i hT h).2 h.2.2.2.1
theorem tK_rg : 0 ≤ tK F n st ∧ tK F n st ≤ 4 := by
  unfold tK
  split
  · split
    · split <;> omega
    · split
      · split <;> omega
      · split <;> omega
  · omega
theorem mso_is {k z : Int} (k0 : 0 ≤ k) (k4 : k ≤ 4) (hz : z = 0 ∨ (2 ≤ z ∧ z ≤ 4)) : mso k = mso z ↔ k = z := by
  rcases (by omega : k = 0 ∨ k = 1 ∨ k = 2 ∨ k = 3 ∨ k = 4) with q | q | q | q | q <;> rcases (by omega : z = 0 ∨ z = 2 ∨ z = 3 ∨ z = 4) with p | p | p | p <;> subst q <;> subst p <;> decide
theorem i_cmp0 {x y : Int} : (i_cmp x y = 0) ↔ x = y := by
  unfold i_cmp
  split
  · omega
  · split <;> omega
theorem i_cmpl {x y : Int} : (i_cmp x y < 0) ↔ x < y := by
  unfold i_cmp
  split
  · omega
  · split <;> omega
theorem i_cmple {x y : Int} : (i_cmp x y ≤ 0) ↔ x ≤ y := by
  unfold i_cmp
  split
  · omega
  · split <;> omega
theorem m_isWord (hT : tpF F n) (h : mAt F n i s) (hw : w < 28) : f184 N (w : Int) s = some (if isW F n (tP F n i) w then 1 else 0, s) := by
  obtain ⟨k1, k2, k3⟩ := mAt_k hT h
  have i1 := (mAt_i hT h).1
  have kr := tK_rg (F := F) (n := n) (st := tP F n i)
  unfold f184
  rw [h.2.2.1, if_pos rfl, h.2.1, ick_ok (by omega) (by omega), k1]
  by_cases k : tK F n (tP F n i) = 2
  · have ek : mso (tK F n (tP F n i)) = 1 := by rw [k]; rfl
    rw [if_pos ek, ick_ok (by omega) (by omega), ick_ok (by omega) (by omega), k3 (by omega), h.2.2.2.2 w hw]
    by_cases q : tV F n (tP F n i) = wordsT.getD w 0
    · rw [if_pos (i_cmp0.mpr q), if_pos ⟨k, q⟩, ib1_ok (Or.inr rfl)]
    · rw [if_neg (fun z => q (i_cmp0.mp z)), if_neg (fun z => q z.2), ib1_ok (Or.inl rfl)]
  · have ek : ¬ mso (tK F n (tP F n i)) = 1 := fun z => k ((mso_is kr.1 kr.2 (z := 2) (Or.inr (by decide))).mp z)
    rw [if_neg ek, if_neg (fun z => k z.1), ib1_ok (Or.inl rfl)]
theorem m_isSign (hT : tpF F n) (h : mAt F n i s) : f183 N c s = some (if isS F n (tP F n i) c then 1 else 0, s) := by
  obtain ⟨k1, k2, k3⟩ := mAt_k hT h
  have i1 := (mAt_i hT h).1
  have kr := tK_rg (F := F) (n := n) (st := tP F n i)
  unfold f183
  rw [h.2.2.1, if_pos rfl, h.2.1, ick_ok (by omega) (by omega), k1]
  by_cases k : tK F n (tP F n i) = 4
  · have ek : mso (tK F n (tP F n i)) = 3 := by rw [k]; rfl
    rw [if_pos ek, ick_ok (by omega) (by omega), k3 (by omega)]
    by_cases q : tV F n (tP F n i) = c
    · rw [if_pos (i_cmp0.mpr q), if_pos ⟨k, q⟩, ib1_ok (Or.inr rfl)]
    · rw [if_neg (fun z => q (i_cmp0.mp z)), if_neg (fun z => q z.2), ib1_ok (Or.inl rfl)]
  · have ek : ¬ mso (tK F n (tP F n i)) = 3 := fun z => k ((mso_is kr.1 kr.2 (z := 4) (Or.inr (by decide))).mp z)
    rw [if_neg ek, if_neg (fun z => k z.1), ib1_ok (Or.inl rfl)]
theorem m_wrong {z : Int} (hT : tpF F n) (h : mAt F n i s) (z0 : 0 ≤ z) (z1 : z ≤ 16) : f182 N z s = some (iw s 63 8 (z + 16 * tP F n i)) := by
  obtain ⟨k1, k2, k3⟩ := mAt_k hT h
  have i1 := (mAt_i hT h).1
  have rg := tP_rg (F := F) hT.1.1 i
  have hT1 := hT.1
  unfold f182
  rw [h.2.2.1, if_pos rfl, h.2.1, ick_ok (by omega) (by omega), k2, iov_ok (by omega) (by omega), iov_ok (by omega) (by omega)]
theorem m_hasWord (hT : tpF F n) (h : mAt F n i s) (hw : w < 28) : f187 N (w : Int) s = some (if isW F n (tP F n i) w then (1, iw s 63 7 ((i : Int) + 1)) else (0, s)) := by
  have i1 := (mAt_i hT h).1
  have e7 := h.2.1
  unfold f187 f187_at20
  rw [m_isWord hT h hw, i_o2_some]
  by_cases q : isW F n (tP F n i) w
  · rw [if_pos q, if_pos q, if_neg (by decide), e7, iov_ok (by omega) (by omega)]
    exact ib1_ok (Or.inr rfl)
  · rw [if_neg q, if_neg q, if_pos rfl, e7, iov_ok (by omega) (by omega)]
    dsimp only
    rw [ib1_ok (Or.inl rfl), show (i : Int) + 0 = s.1 63 7 by omega, iw_self']
theorem m_hasSign (hT : tpF F n) (h : mAt F n i s) : f186 N c s = some (if isS F n (tP F n i) c then (1, iw s 63 7 ((i : Int) + 1)) else (0, s)) := by
  have i1 := (mAt_i hT h).1
  have e7 := h.2.1
  unfold f186 f186_at20
  rw [m_isSign hT h, i_o2_some]
  by_cases q : isS F n (tP F n i) c
  · rw [if_pos q, if_pos q, if_neg (by decide), e7, iov_ok (by omega) (by omega)]
    exact ib1_ok (Or.inr rfl)
  · rw [if_neg q, if_neg q, if_pos rfl, e7, iov_ok (by omega) (by omega)]
    dsimp only
    rw [ib1_ok (Or.inl rfl), show (i : Int) + 0 = s.1 63 7 by omega, iw_self']
theorem m_takeWord (hT : tpF F n) (h : mAt F n i s) (hw : w < 28) : f188 N (w : Int) s = some (if isW F n (tP F n i) w then iw s 63 7 ((i : Int) + 1) else iw s 63 8 (1 + 16 * tP F n i)) := by
  unfold f188
  rw [m_hasWord hT h hw]
  by_cases q : isW F n (tP F n i) w
  · rw [if_pos q, if_pos q, i_o2_some, if_neg (by decide)]
  · rw [if_neg q, if_neg q, i_o2_some, if_pos rfl, m_wrong hT h (by decide) (by decide), i_o1_some]
theorem m_takeSign (hT : tpF F n) (h : mAt F n i s) : f185 N c s = some (if isS F n (tP F n i) c then iw s 63 7 ((i : Int) + 1) else iw s 63 8 (1 + 16 * tP F n i)) := by
  have i1 := (mAt_i hT h).1
  have e7 := h.2.1
  unfold f185
  rw [m_isSign hT h, i_o2_some]
  by_cases q : isS F n (tP F n i) c
  · rw [if_pos q, if_pos q, if_neg (by decide), e7, iov_ok (by omega) (by omega)]
  · rw [if_neg q, if_neg q, if_pos rfl, m_wrong hT h (by decide) (by decide), i_o1_some]
theorem tV_num (k : tK F n st = 3) : 0 ≤ tV F n st ∧ tV F n st ≤ 9999 := by
  obtain ⟨t1, t2, t3, t4⟩ := tK_3 k
  have w1 := wd_rg (F := F) (st := st) (tE F n st - st).toNat (fun j a b => t2 j a (by omega))
  have w2 := p10 (tE F n st - st).toNat (by omega)
  have e : tV F n st = wvl F 10 48 st (tE F n st - st).toNat := by
    unfold tV
    rw [if_neg (by omega), if_pos k]
  omega
theorem bmod32 {x : Int} (h0 : -2147483648 ≤ x) (h1 : x ≤ 2147483647) : Int.bmod x 4294967296 = x := by
  exact Int.bmod_eq_of_le (by show -((4294967296 : Int) / 2) ≤ x; omega) (by show x < ((4294967296 : Int) + 1) / 2; omega)
theorem m_takeNum (hT : tpF F n) (h : mAt F n i s) : f190 N lo hi s = some (if isN F n (tP F n i) lo hi then (tV F n (tP F n i), iw s 63 7 ((i : Int) + 1)) else (0, iw s 63 8 (nWhy F n (tP F n i) + 16 * tP F n i))) := by
  obtain ⟨k1, k2, k3⟩ := mAt_k hT h
  have i1 := (mAt_i hT h).1
  have e7 := h.2.1
  have e8 := h.2.2.1
  have kr := tK_rg (F := F) (n := n) (st := tP F n i)
  have rg := tP_rg (F := F) hT.1.1 i
  have hT1 := hT.1
  have bad : ∀ z : Int, 0 < z → z ≤ 16 → f190_at70 N (iw s 63 8 (z + 16 * tP F n i)) = some (0, iw s 63 8 (z + 16 * tP F n i)) := fun z z0 z1 => by
    unfold f190_at70
    rw [iw_at, zup_same, if_neg (by omega)]
  unfold f190
  rw [e8, if_pos rfl, e7, ick_ok (by omega) (by omega), k1]
  by_cases k : tK F n (tP F n i) = 3
  · have ek : mso (tK F n (tP F n i)) = 2 := by rw [k]; rfl
    have ew : nWhy F n (tP F n i) = 4 := if_pos k
    have vr := tV_num k
    rw [if_pos ek]
    unfold f190_at28 f190_at65
    rw [e8, if_pos rfl, e7, ick_ok (by omega) (by omega), k3 (by omega), m_wrong hT h (by decide) (by decide), i_o1_some, bad 4 (by decide) (by decide)]
    by_cases q1 : tV F n (tP F n i) < lo
    · rw [if_pos (i_cmpl.mpr q1), if_neg (show ¬ isN F n (tP F n i) lo hi by intro z; have := z.2; omega), ew]
    · rw [if_neg (fun z => q1 (i_cmpl.mp z)), ick_ok (by omega) (by omega)]
      by_cases q2 : tV F n (tP F n i) ≤ hi
      · rw [if_pos (i_cmple.mpr q2), if_pos (show isN F n (tP F n i) lo hi from ⟨k, by omega, q2⟩)]
        unfold f190_at70
        rw [e8, if_pos (by decide), e7, iov_ok (by omega) (by omega)]
        dsimp only
        rw [iw_at, zup_same, iw_2, show (i : Int) + 1 - 1 = i by omega, iov_ok (by omega) (by omega), ick_ok (by omega) (by omega), k3 (by omega), bmod32 (by omega) (by omega)]
      · rw [if_neg (fun z => q2 (i_cmple.mp z)), if_neg (show ¬ isN F n (tP F n i) lo hi by intro z; have := z.2; omega), ew]
  · have ek : ¬ mso (tK F n (tP F n i)) = 2 := fun z => k ((mso_is kr.1 kr.2 (z := 3) (Or.inr (by decide))).mp z)
    have ew : nWhy F n (tP F n i) = 1 := if_neg k
    rw [if_neg ek, m_wrong hT h (by decide) (by decide), i_o1_some, bad 1 (by decide) (by decide), if_neg (show ¬ isN F n (tP F n i) lo hi from fun z => k z.1), ew]
-- something is wrong: nothing more is taken
theorem b_isWord {x : Int} {z : Int} (h : mBad z s) : f184 N x s = some (0, s) := by
  unfold f184
  rw [h.1, if_neg (by have := h.2.1; omega), ib1_ok (Or.inl rfl)]
theorem b_isSign {x : Int} {z : Int} (h : mBad z s) : f183 N x s = some (0, s) := by
  unfold f183
  rw [h.1, if_neg (by have := h.2.1; omega), ib1_ok (Or.inl rfl)]
theorem b_wrong {x : Int} {z : Int} (h : mBad z s) : f182 N x s = some s := by
  unfold f182
  rw [h.1, if_neg (by have := h.2.1; omega)]
theorem b_hasWord {x : Int} {z : Int} (h : mBad z s) : f187 N x s = some (0, s) := by
  unfold f187 f187_at20
  obtain ⟨h1, h2, h3, h4⟩ := id h
  rw [b_isWord h, i_o2_some, if_pos rfl, iov_ok (by omega) (by omega)]
  dsimp only
  rw [ib1_ok (Or.inl rfl), show s.1 63 7 + 0 = s.1 63 7 by omega, iw_self']
theorem b_hasSign {x : Int} {z : Int} (h : mBad z s) : f186 N x s = some (0, s) := by
  unfold f186 f186_at20
  obtain ⟨h1, h2, h3, h4⟩ := id h
  rw [b_isSign h, i_o2_some, if_pos rfl, iov_ok (by omega) (by omega)]
  dsimp only
  rw [ib1_ok (Or.inl rfl), show s.1 63 7 + 0 = s.1 63 7 by omega, iw_self']
theorem b_takeWord {x : Int} {z : Int} (h : mBad z s) : f188 N x s = some s := by
  unfold f188
  rw [b_hasWord h, i_o2_some, if_pos rfl, b_wrong h, i_o1_some]
theorem b_takeSign {x : Int} {z : Int} (h : mBad z s) : f185 N x s = some s := by
  unfold f185
  rw [b_isSign h, i_o2_some, if_pos rfl, b_wrong h, i_o1_some]
theorem b_takeNum {z : Int} (h : mBad z s) : f190 N lo hi s = some (0, s) := by
  obtain ⟨h1, h2, h3, h4⟩ := id h
  unfold f190 f190_at28 f190_at70
  rw [h1, if_neg (by omega), if_neg (by omega), if_neg (by omega)]
theorem b_takeAfter {x : Int} {z : Int} (h : mBad z s) : f191 N x lo hi s = some (0, s) := by
  unfold f191
  rw [b_takeWord h, i_o1_some, b_takeNum h, i_o2_some]
theorem mBad_of {z : Int} (hT : tpF F n) (h : mAt F n i s) (z0 : 0 < z) : mBad (z + 16 * tP F n i) (iw s 63 8 (z + 16 * tP F n i)) := by
  have i1 := (mAt_i hT h).1
  have rg := tP_rg (F := F) hT.1.1 i
  refine ⟨by rw [iw_at, zup_same], by omega, ?_, ?_⟩
  · rw [iw_at, zup_ne (by decide), h.2.1]; omega
  · rw [iw_at, zup_ne (by decide), h.2.1]; omega
theorem mBad.of {z : Int} (h : mBad z s) (e7 : v.1 63 7 = s.1 63 7) (e8 : v.1 63 8 = s.1 63 8) : mBad z v := by
  unfold mBad
  rw [e7, e8]
  exact h
end MTOK
