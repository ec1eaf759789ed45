/-! Promise 25: pitch answered alike, the reference. -/
section MPITCH
variable {N : Nat} {s u : gI} {k a x : Int}
theorem m_at118 {y : Int} : f280_at118 N y u = some (if y < 0 ∨ y = 64 then 0 else 1, u) := by
  unfold f280_at118
  rw [ib1_ok (Or.inl rfl), ib1_ok (Or.inr rfl)]
  by_cases g : y < 0
  · rw [if_pos g, if_pos (Or.inl g)]
  rw [if_neg g]
  by_cases g2 : y = 64
  · rw [if_pos g2, if_pos (Or.inr g2)]
  · rw [if_neg g2, if_neg (by omega)]
theorem m_shot (hN : 5000 ≤ N) (hI : INV k s) (e69 : u.1 69 = s.1 69) (e71 : u.1 71 = s.1 71) (hx : 0 ≤ x ∧ x < 8) {i : Int} (i0 : 0 ≤ i) (i1 : i < s.1 15 8) :
    f280 N i x u = some (if (s.1 15 12 = -1 ∨ s.1 23 i ≤ s.1 15 12) ∧ ¬ (shY s x i < 0 ∨ shY s x i = 64) then 1 else 0, u) := by
  have hw := hI.1.1.1
  have hE := hI.1.2.2.1
  have hmo : mOK u := by
    unfold mOK
    rw [e69, e71]
    exact hI.1.2.1
  obtain ⟨-, -, -, s8, sh', s3, s12, -⟩ := hI.2.2.1
  obtain ⟨e0, e1, e2, e3, e4⟩ := INV_eq hI
  obtain ⟨⟨hW0, hW⟩, ⟨hD0, hD⟩, -, -⟩ := id hw
  obtain ⟨q1, q2, q3, q4, q5, q6, q7⟩ := sh' i i0 i1
  have r22 : -8 ≤ s.1 22 i ∧ s.1 22 i ≤ 8 := by rw [q3]; split <;> omega
  have o1 : mO u (-1) (-1) = fun _ => -1 := funext fun c => by unfold mO; rw [if_pos (by decide)]
  have a83 : (s.1 15 12 = -1 ∨ s.1 23 i ≤ s.1 15 12) → f280_at83 N (x + s.1 22 i) (s.1 12 1 - s.1 23 i) u = some (if (s.1 15 12 = -1 ∨ s.1 23 i ≤ s.1 15 12) ∧ ¬ (shY s x i < 0 ∨ shY s x i = 64) then 1 else 0, u) := fun ht => by
    unfold f280_at83
    have c1 := cTo_eqQ hE hw.1.2 hw.2.1.2 (fun _ => -1) (x + s.1 22 i) (s.1 12 1 - s.1 23 i)
    have c1' : cTo (s.1 69 0) (s.1 69 1) (sh 2 (s.1 69)) (fun _ => -1) (x + s.1 22 i) (s.1 12 1 - s.1 23 i) = shZ s x i := c1.symm
    rw [m_comesTo hN hmo (by decide) (by omega) (by omega), i_o2_some, o1, e69, c1']
    have fin : ∀ y : Int, y = shY s x i → f280_at118 N y u = some (if (s.1 15 12 = -1 ∨ s.1 23 i ≤ s.1 15 12) ∧ ¬ (shY s x i < 0 ∨ shY s x i = 64) then 1 else 0, u) := fun y hy => by
      subst hy
      rw [m_at118]
      by_cases g : shY s x i < 0 ∨ shY s x i = 64
      · rw [if_pos g, if_neg (fun hh => hh.2 g)]
      · rw [if_neg g, if_pos ⟨ht, g⟩]
    by_cases g : shZ s x i < 0
    · rw [if_pos g]
      exact fin _ (if_pos (Or.inl g)).symm
    rw [if_neg g]
    by_cases g2 : 64 ≤ shZ s x i
    · rw [if_pos g2]
      exact fin _ (if_pos (Or.inr g2)).symm
    rw [if_neg g2]
    have on := shZ_on hw (x := x) (k := i) (by omega) (by omega)
    have r1 := roll_eqQ hE hw.1.2 hw.2.1.2 (fun _ => -1) 64 (fun j => decide (j = shZ s x i)) (shZ s x i) on.1
    rw [m_rolled hN hmo (by decide) (by omega) (by omega), i_o2_some, o1, e69]
    refine fin _ ?_
    have e : shY s x i = rollT (Qb s) (fun _ => 64) 0 (shZ s x i) := if_neg (by omega)
    rw [e]
    exact r1.symm
  have a37 : f280_at37 N (38 + 4 * i) (s.1 22 i) x u = some (if (s.1 15 12 = -1 ∨ s.1 23 i ≤ s.1 15 12) ∧ ¬ (shY s x i < 0 ∨ shY s x i = 64) then 1 else 0, u) := by
    unfold f280_at37
    rw [iov_ok (by omega) (by omega), m_deep, i_o2_some, e69, e71, e1, iov_ok (by omega) (by omega), ick_ok (by omega) (by omega), q4, iov_ok (by omega) (by omega), ick_ok (by omega) (by omega), s3]
    by_cases g : s.1 15 12 < 0
    · rw [if_pos g]; exact a83 (Or.inl (by omega))
    rw [if_neg g, iov_ok (by omega) (by omega), ick_ok (by omega) (by omega), ick_ok (by omega) (by omega)]
    by_cases g2 : s.1 23 i ≤ s.1 15 12
    · rw [if_pos g2]; exact a83 (Or.inr g2)
    · rw [if_neg g2, ib1_ok (Or.inl rfl), if_neg (fun hh => by rcases hh.1 with q | q; omega; exact g2 q)]
  unfold f280
  rw [iov_ok (by omega) (by omega), iov_ok (by omega) (by omega)]
  dsimp only
  rw [ick_ok (by omega) (by omega), e71]
  by_cases g : s.1 71 (38 + 4 * i) = 0
  · rw [if_pos g] at q3
    rw [if_pos g, iov_ok (by omega) (by omega), ick_ok (by omega) (by omega), iov_ok (by omega) (by omega), ← q3]
    exact a37
  · rw [if_neg g] at q3
    rw [if_neg g, iov_ok (by omega) (by omega), ick_ok (by omega) (by omega), ← q3]
    exact a37
theorem m_pS_lp (hN : 5000 ≤ N) (hI : INV k s) (e69 : u.1 69 = s.1 69) (e71 : u.1 71 = s.1 71) (hx : 0 ≤ x ∧ x < 8) : ∀ (r fuel : Nat) (z i : Int), r < fuel → 0 ≤ i → i + r = s.1 15 8 → 0 ≤ z → z ≤ 99 * i →
    f281_at4 N fuel x z i u = some (z + pS s x r i, u) := by
  obtain ⟨-, -, s2, s8, sh', s3, s12, -⟩ := hI.2.2.1
  intro r
  induction r with
  | zero =>
    intro fuel z i hf i0 e z0 z1
    obtain ⟨fuel, rfl⟩ : ∃ g, fuel = g + 1 := ⟨fuel - 1, by omega⟩
    unfold f281_at4 pS
    rw [ick_ok (by omega) (by omega), e71, s2, if_pos (by omega), Int.add_zero]
  | succ r ih =>
    intro fuel z i hf i0 e z0 z1
    obtain ⟨fuel, rfl⟩ : ∃ g, fuel = g + 1 := ⟨fuel - 1, by omega⟩
    obtain ⟨q1, q2, q3, q4, q5, q6, q7⟩ := sh' i i0 (by omega)
    unfold f281_at4 f281_at41 pS shV
    rw [ick_ok (by omega) (by omega), e71, s2, if_neg (by omega), m_shot hN hI e69 e71 hx i0 (by omega), i_o2_some]
    by_cases g : (s.1 15 12 = -1 ∨ s.1 23 i ≤ s.1 15 12) ∧ ¬ (shY s x i < 0 ∨ shY s x i = 64)
    · rw [if_pos g, if_pos g, if_neg (by decide), iov_ok (by omega) (by omega), iov_ok (by omega) (by omega), iov_ok (by omega) (by omega), ick_ok (by omega) (by omega), e71, q6, iov_ok (by omega) (by omega), iov_ok (by omega) (by omega), ← Int.add_assoc]
      exact ih fuel (z + s.1 24 i) (i + 1) (by omega) (by omega) (by omega) (by omega) (by omega)
    · rw [if_neg g, if_neg g, if_pos rfl, iov_ok (by omega) (by omega), iov_ok (by omega) (by omega), ← Int.add_assoc]
      exact ih fuel (z + 0) (i + 1) (by omega) (by omega) (by omega) (by omega) (by omega)
/-- what is paid for a column -/
def pC (s : gI) (x : Int) : Int := pS s x (s.1 15 8).toNat 0
theorem c_pC (hN : 5000 ≤ N) (hI : INV k s) (hx : 0 ≤ x ∧ x < 8) : f73 N x s = some (pC s x, s) := by
  have s8 := hI.2.2.1.2.2.2.1
  have := c_pS_lp hN hI hx (s.1 15 8).toNat N 0 0 (by omega) (by decide) (by omega) (by decide) (by decide)
  rw [Int.zero_add] at this
  exact this
theorem m_pC (hN : 5000 ≤ N) (hI : INV k s) (e69 : u.1 69 = s.1 69) (e71 : u.1 71 = s.1 71) (hx : 0 ≤ x ∧ x < 8) : f281 N x u = some (pC s x, u) := by
  have s8 := hI.2.2.1.2.2.2.1
  have := m_pS_lp hN hI e69 e71 hx (s.1 15 8).toNat N 0 0 (by omega) (by decide) (by omega) (by decide) (by decide)
  rw [Int.zero_add] at this
  exact this
/-- the first column of the least -/
def pB (s : gI) : Nat → Int → Int → Int
  | 0, _, b => b
  | r + 1, i, b => pB s r (i + 1) (if pC s b ≤ pC s i then b else i)
theorem c_pB_lp (hN : 5000 ≤ N) (hI : INV k s) : ∀ (r fuel : Nat) (i b : Int), r < fuel → 0 ≤ i → i + r = s.1 12 0 → 0 ≤ b ∧ b < s.1 12 0 →
    f158_at52 N fuel a b (pC s b) i s = some (if a = 0 then pC s (pB s r i b) else pB s r i b, s) := by
  have hw := hI.1.1.1
  obtain ⟨⟨hW0, hW⟩, -⟩ := id hw
  intro r
  induction r with
  | zero =>
    intro fuel i b hf i0 e hb
    obtain ⟨fuel, rfl⟩ : ∃ g, fuel = g + 1 := ⟨fuel - 1, by omega⟩
    unfold f158_at52 pB
    rw [if_pos (by omega)]
    split <;> rfl
  | succ r ih =>
    intro fuel i b hf i0 e hb
    obtain ⟨fuel, rfl⟩ : ∃ g, fuel = g + 1 := ⟨fuel - 1, by omega⟩
    unfold f158_at52 pB
    rw [if_neg (by omega), c_pC hN hI (by omega), i_o2_some, iov_ok (by omega) (by omega)]
    by_cases g : pC s b ≤ pC s i
    · rw [if_pos g, if_pos g]
      exact ih fuel (i + 1) b (by omega) (by omega) (by omega) hb
    · rw [if_neg g, if_neg g, iov_ok (by omega) (by omega)]
      exact ih fuel (i + 1) i (by omega) (by omega) (by omega) (by omega)
theorem m_pB_lp (hN : 5000 ≤ N) (hI : INV k s) (e69 : u.1 69 = s.1 69) (e71 : u.1 71 = s.1 71) (ha : 0 ≤ a ∧ a ≤ 1 + s.1 12 0) : ∀ (r fuel : Nat) (i b : Int), r < fuel → 0 ≤ i → i + r = s.1 12 0 → 0 ≤ b ∧ b < s.1 12 0 →
    f282_at25 N fuel a b i u = some (if a = 0 then pC s (pB s r i b) else if a = 1 then pB s r i b else pC s (a - 2), u) := by
  have hw := hI.1.1.1
  obtain ⟨e0, -⟩ := INV_eq hI
  obtain ⟨⟨hW0, hW⟩, -⟩ := id hw
  intro r
  induction r with
  | zero =>
    intro fuel i b hf i0 e hb
    obtain ⟨fuel, rfl⟩ : ∃ g, fuel = g + 1 := ⟨fuel - 1, by omega⟩
    unfold f282_at25 pB
    rw [m_wide, i_o2_some, e69, e0, if_pos (by omega), m_pC hN hI e69 e71 (by omega), i_o2_some]
    by_cases g : a = 0
    · rw [if_pos g, if_pos g]
    rw [if_neg g, if_neg g]
    by_cases g1 : a = 1
    · rw [if_pos g1, if_pos g1]
    · rw [if_neg g1, if_neg g1, iov_ok (by omega) (by omega), m_pC hN hI e69 e71 (by omega), i_o2_some]
  | succ r ih =>
    intro fuel i b hf i0 e hb
    obtain ⟨fuel, rfl⟩ : ∃ g, fuel = g + 1 := ⟨fuel - 1, by omega⟩
    unfold f282_at25 pB
    rw [m_wide, i_o2_some, e69, e0, if_neg (by omega), m_pC hN hI e69 e71 (by omega), i_o2_some, m_pC hN hI e69 e71 (by omega), i_o2_some, iov_ok (by omega) (by omega)]
    by_cases g : pC s b ≤ pC s i
    · rw [if_pos g, if_pos g]
      exact ih fuel (i + 1) b (by omega) (by omega) (by omega) hb
    · rw [if_neg g, if_neg g, iov_ok (by omega) (by omega)]
      exact ih fuel (i + 1) i (by omega) (by omega) (by omega) (by omega)
theorem q_pitch (hN : 5000 ≤ N) (hI : INV k s) (ha : -2147483648 ≤ a ∧ a ≤ 2147483647) : OKc k s (f158 N a) (f282 N a) := by
  have hw := hI.1.1.1
  obtain ⟨e0, -⟩ := INV_eq hI
  obtain ⟨⟨hW0, hW⟩, -⟩ := id hw
  have a69 : (iw s 63 0 0).1 69 = s.1 69 := iw63 (by decide)
  have a71 : (iw s 63 0 0).1 71 = s.1 71 := iw63 (by decide)
  by_cases h : 0 ≤ a ∧ a ≤ 1 + s.1 12 0
  rotate_left
  · refine OKc.q hI (x := -1) (s1 := s) (s2 := iw s 63 0 0) ?_ ?_ sameQ_thrown
    · unfold f158
      by_cases g : a < 0
      · rw [if_pos g]
      · rw [if_neg g, iov_ok (by omega) (by omega), if_neg (by omega)]
    · unfold f282
      dsimp only
      rw [m_wide, i_o2_some, a69, e0, iov_ok (by omega) (by omega), m_within, i_o2_some, if_neg h, if_pos rfl]
  have l2 := m_pB_lp (N := N) hN hI a69 a71 h (s.1 12 0 - 1).toNat N 1 0 (by omega) (by decide) (by omega) (by omega)
  refine OKc.q hI (s1 := s) (s2 := iw s 63 0 0) (x := if a = 0 then pC s (pB s (s.1 12 0 - 1).toNat 1 0) else if a = 1 then pB s (s.1 12 0 - 1).toNat 1 0 else pC s (a - 2)) ?_ ?_ sameQ_thrown
  · unfold f158
    rw [if_neg (by omega), iov_ok (by omega) (by omega), if_pos (by omega)]
    by_cases g : a < 2
    · rw [if_pos g, c_pC hN hI (by decide), i_o2_some, c_pB_lp hN hI (s.1 12 0 - 1).toNat N 1 0 (by omega) (by decide) (by omega) (by omega)]
      by_cases g0 : a = 0
      · rw [if_pos g0, if_pos g0]
      · rw [if_neg g0, if_neg g0, if_pos (by omega)]
    · rw [if_neg g, iov_ok (by omega) (by omega), c_pC hN hI (by omega), i_o2_some, if_neg (by omega), if_neg (by omega)]
  · unfold f282
    dsimp only
    rw [m_wide, i_o2_some, a69, e0, iov_ok (by omega) (by omega), m_within, i_o2_some, if_pos h, if_neg (by decide)]
    exact l2
end MPITCH
