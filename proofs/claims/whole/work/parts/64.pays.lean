/-! Promise 26: pays answered alike. -/
section PAYS
variable {N : Nat} {s u : gI} {k a b : Int}
def payT (s : gI) (a b t : Int) : Int := if (b = 1 ∨ (b = 0 ∧ s.1 8 t = a) ∨ (b = 2 ∧ s.1 19 t = a)) ∧ s.1 7 t ≠ 64 then s.1 20 t else 0
def payS (s : gI) (a b : Int) : Nat → Int → Int
  | 0, _ => 0
  | r + 1, t => payT s a b t + payS s a b r (t + 1)
theorem c_pays_lp (h20 : ∀ t, 0 ≤ t → t < s.1 15 3 → 0 ≤ s.1 20 t ∧ s.1 20 t ≤ 99) (hn : s.1 15 3 ≤ 8) (hp : 0 < s.1 15 0) (hb : 0 ≤ b ∧ b ≤ 2) : ∀ (r fuel : Nat) (z t : Int), r < fuel → 0 ≤ t → t + r = s.1 15 3 → 0 ≤ z → z ≤ 99 * t →
    f159_at24 N fuel a b z t s = some (if b = 1 then (z + payS s a b r t) / s.1 15 0 else z + payS s a b r t, s) := by
  intro r
  induction r with
  | zero =>
    intro fuel z t hf t0 e z0 z1
    obtain ⟨fuel, rfl⟩ : ∃ g, fuel = g + 1 := ⟨fuel - 1, by omega⟩
    unfold f159_at24
    rw [if_pos (by omega), if_neg (show ¬ s.1 15 0 ≤ 0 by omega), idv_ok (by omega) (by omega)]
    unfold payS
    rw [Int.add_zero]
    split <;> rfl
  | succ r ih =>
    intro fuel z t hf t0 e z0 z1
    obtain ⟨fuel, rfl⟩ : ∃ g, fuel = g + 1 := ⟨fuel - 1, by omega⟩
    have w := h20 t t0 (by omega)
    have go : payT s a b t = 0 → f159_at24 N fuel a b z (t + 1) s = some (if b = 1 then (z + payS s a b (r + 1) t) / s.1 15 0 else z + payS s a b (r + 1) t, s) := fun h => by
      unfold payS
      rw [h, Int.zero_add]
      exact ih fuel z (t + 1) (by omega) (by omega) (by omega) z0 (by omega)
    have go2 : payT s a b t = s.1 20 t → f159_at24 N fuel a b (z + s.1 20 t) (t + 1) s = some (if b = 1 then (z + payS s a b (r + 1) t) / s.1 15 0 else z + payS s a b (r + 1) t, s) := fun h => by
      unfold payS
      rw [h, ← Int.add_assoc]
      exact ih fuel (z + s.1 20 t) (t + 1) (by omega) (by omega) (by omega) (by omega) (by omega)
    have yes : (b = 1 ∨ (b = 0 ∧ s.1 8 t = a) ∨ (b = 2 ∧ s.1 19 t = a)) → f159_at84 N (f159_at24 N fuel) a b z t s = some (if b = 1 then (z + payS s a b (r + 1) t) / s.1 15 0 else z + payS s a b (r + 1) t, s) := fun h => by
      unfold f159_at84 f159_at89
      rw [if_neg (by decide), ick_ok (by omega) (by omega)]
      by_cases g : s.1 7 t = 64
      · rw [if_pos g, iov_ok (by omega) (by omega)]
        exact go (if_neg fun hh => hh.2 g)
      · rw [if_neg g, ick_ok (by omega) (by omega), iov_ok (by omega) (by omega), iov_ok (by omega) (by omega)]
        exact go2 (if_pos ⟨h, g⟩)
    have no : ¬ (b = 1 ∨ (b = 0 ∧ s.1 8 t = a) ∨ (b = 2 ∧ s.1 19 t = a)) → f159_at88 N (f159_at24 N fuel) a b z t s = some (if b = 1 then (z + payS s a b (r + 1) t) / s.1 15 0 else z + payS s a b (r + 1) t, s) := fun h => by
      unfold f159_at88 f159_at89
      rw [if_pos rfl, iov_ok (by omega) (by omega)]
      exact go (if_neg fun hh => h hh.1)
    have mid : (b ≠ 1) → ¬ (b = 0 ∧ s.1 8 t = a) → f159_at62 N (f159_at24 N fuel) a b z t s = some (if b = 1 then (z + payS s a b (r + 1) t) / s.1 15 0 else z + payS s a b (r + 1) t, s) := fun h h2 => by
      unfold f159_at62
      by_cases g : b = 2
      · rw [if_pos g, ick_ok (by omega) (by omega)]
        by_cases g2 : s.1 19 t = a
        · rw [if_pos g2]; exact yes (Or.inr (Or.inr ⟨g, g2⟩))
        · rw [if_neg g2]; exact no (fun hh => by rcases hh with q | q | q; exact h q; exact h2 q; exact g2 q.2)
      · rw [if_neg g]; exact no (fun hh => by rcases hh with q | q | q; exact h q; exact h2 q; exact g q.1)
    unfold f159_at24
    rw [if_neg (by omega)]
    by_cases g1 : b = 1
    · rw [if_pos g1]; exact yes (Or.inl g1)
    rw [if_neg g1]
    by_cases g0 : b = 0
    · rw [if_pos g0, ick_ok (by omega) (by omega)]
      by_cases g2 : s.1 8 t = a
      · rw [if_pos g2]; exact yes (Or.inr (Or.inl ⟨g0, g2⟩))
      · rw [if_neg g2]; exact mid g1 (fun hh => g2 hh.2)
    · rw [if_neg g0]; exact mid g1 (fun hh => g0 hh.1)
theorem m_pays_lp (h20 : ∀ t, 0 ≤ t → t < s.1 15 3 → 0 ≤ s.1 20 t ∧ s.1 20 t ≤ 99) (hn : s.1 15 3 ≤ 8) (hp : 0 < s.1 15 0) (hb : 0 ≤ b ∧ b ≤ 2) (e0 : u.1 71 0 = s.1 15 0) (e1 : u.1 71 1 = s.1 15 3)
    (e7 : ∀ t, 0 ≤ t → t < 8 → u.1 78 t = s.1 7 t) (e8 : ∀ t, 0 ≤ t → t < 8 → u.1 78 (8 + t) = s.1 8 t) (e19 : ∀ t, 0 ≤ t → t < s.1 15 3 → u.1 71 (14 + 3 * t + 1) = s.1 19 t) (e20 : ∀ t, 0 ≤ t → t < s.1 15 3 → u.1 71 (14 + 3 * t + 2) = s.1 20 t) : ∀ (r fuel : Nat) (z t : Int), r < fuel → 0 ≤ t → t + r = s.1 15 3 → 0 ≤ z → z ≤ 99 * t →
    f283_at29 N fuel a b z t u = some (if b = 1 then (z + payS s a b r t) / s.1 15 0 else z + payS s a b r t, u) := by
  intro r
  induction r with
  | zero =>
    intro fuel z t hf t0 e z0 z1
    obtain ⟨fuel, rfl⟩ : ∃ g, fuel = g + 1 := ⟨fuel - 1, by omega⟩
    unfold f283_at29
    rw [m_things, i_o2_some, e1, if_pos (by omega), m_people, i_o2_some, e0, idv_ok (by omega) (by omega)]
    unfold payS
    rw [Int.add_zero]
    split <;> rfl
  | succ r ih =>
    intro fuel z t hf t0 e z0 z1
    obtain ⟨fuel, rfl⟩ : ∃ g, fuel = g + 1 := ⟨fuel - 1, by omega⟩
    have w := h20 t t0 (by omega)
    have go : payT s a b t = 0 → f283_at29 N fuel a b z (t + 1) u = some (if b = 1 then (z + payS s a b (r + 1) t) / s.1 15 0 else z + payS s a b (r + 1) t, u) := fun h => by
      unfold payS
      rw [h, Int.zero_add]
      exact ih fuel z (t + 1) (by omega) (by omega) (by omega) z0 (by omega)
    have go2 : payT s a b t = s.1 20 t → f283_at29 N fuel a b (z + s.1 20 t) (t + 1) u = some (if b = 1 then (z + payS s a b (r + 1) t) / s.1 15 0 else z + payS s a b (r + 1) t, u) := fun h => by
      unfold payS
      rw [h, ← Int.add_assoc]
      exact ih fuel (z + s.1 20 t) (t + 1) (by omega) (by omega) (by omega) (by omega) (by omega)
    have yes : (b = 1 ∨ (b = 0 ∧ s.1 8 t = a) ∨ (b = 2 ∧ s.1 19 t = a)) → f283_at71 N (f283_at29 N fuel) a b z t u = some (if b = 1 then (z + payS s a b (r + 1) t) / s.1 15 0 else z + payS s a b (r + 1) t, u) := fun h => by
      unfold f283_at71 f283_at76 f283_at106 f283_at107
      rw [if_neg (by decide), ick_ok (by omega) (by omega), e7 t t0 (by omega)]
      by_cases g : s.1 7 t = 64
      · rw [if_pos g, Int.add_zero, iov_ok (by omega) (by omega), iov_ok (by omega) (by omega)]
        exact go (if_neg fun hh => hh.2 g)
      · rw [if_neg g, m_thingOf t0 (by omega) (by decide) (by decide), i_o2_some, e20 t t0 (by omega), iov_ok (by omega) (by omega), iov_ok (by omega) (by omega)]
        exact go2 (if_pos ⟨h, g⟩)
    have no : ¬ (b = 1 ∨ (b = 0 ∧ s.1 8 t = a) ∨ (b = 2 ∧ s.1 19 t = a)) → f283_at76 N (f283_at29 N fuel) a b z t 0 u = some (if b = 1 then (z + payS s a b (r + 1) t) / s.1 15 0 else z + payS s a b (r + 1) t, u) := fun h => by
      unfold f283_at76 f283_at106 f283_at107
      rw [if_pos rfl, Int.add_zero, iov_ok (by omega) (by omega), iov_ok (by omega) (by omega)]
      exact go (if_neg fun hh => h hh.1)
    unfold f283_at29
    rw [m_things, i_o2_some, e1, if_neg (by omega)]
    by_cases g1 : b = 1
    · rw [if_pos g1]; exact yes (Or.inl g1)
    rw [if_neg g1]
    unfold f283_at67
    by_cases g0 : b = 0
    · rw [if_pos g0, iov_ok (by omega) (by omega), ick_ok (by omega) (by omega), e8 t t0 (by omega)]
      by_cases g2 : s.1 8 t = a
      · rw [if_pos g2]; exact yes (Or.inr (Or.inl ⟨g0, g2⟩))
      · rw [if_neg g2]; exact no (fun hh => by rcases hh with q | q | q; exact g1 q; exact g2 q.2; omega)
    · rw [if_neg g0, m_thingOf t0 (by omega) (by decide) (by decide), i_o2_some, e19 t t0 (by omega)]
      by_cases g2 : s.1 19 t = a
      · rw [if_pos g2]; exact yes (Or.inr (Or.inr ⟨by omega, g2⟩))
      · rw [if_neg g2]; exact no (fun hh => by rcases hh with q | q | q; exact g1 q; exact g0 q.1; exact g2 q.2)
theorem q_pays (hN : 5000 ≤ N) (hI : INV k s) : OKc k s (f159 N a b) (f283 N a b) := by
  obtain ⟨e0, e1, e2, e3, e4⟩ := INV_eq hI
  have hw := hI.1.1.1
  have hn := hw.2.2.1
  have wo := hI.1.1.2.2.2.2
  have e20 := hI.1.2.2.2.2.2.2.2.2.1
  have e19 := hI.2.2.1.2.1
  have e8 := hI.2.1.1
  by_cases h : 0 ≤ a ∧ a < s.1 15 0
  rotate_left
  · refine OKc.q hI (x := -1) (s1 := s) (s2 := iw s 63 0 0) ?_ ?_ sameQ_thrown
    · unfold f159
      rw [c_isPerson, i_o2_some, if_neg h, if_pos rfl]
    · unfold f283
      dsimp only
      rw [m_isPerson, i_o2_some, iw63 (by decide), e2, if_neg h, if_pos rfl]
  by_cases hb : 0 ≤ b ∧ b ≤ 2
  rotate_left
  · refine OKc.q hI (x := -1) (s1 := s) (s2 := iw s 63 0 0) ?_ ?_ sameQ_thrown
    · unfold f159
      rw [c_isPerson, i_o2_some, if_pos h, if_neg (by decide)]
      by_cases g : b < 0
      · rw [if_pos g]
      · rw [if_neg g, if_neg (by omega)]
    · unfold f283
      dsimp only
      rw [m_isPerson, i_o2_some, iw63 (by decide), e2, if_pos h, if_neg (by decide), m_within, i_o2_some, if_neg hb, if_pos rfl]
  have l1 := c_pays_lp (N := N) (s := s) (a := a) (b := b) (fun t t0 t1 => wo t t0 (by omega)) hn.2 (by omega) hb (s.1 15 3).toNat N 0 0 (by omega) (by decide) (by omega) (by decide) (by decide)
  have l2 := m_pays_lp (N := N) (s := s) (u := iw s 63 0 0) (a := a) (b := b) (fun t t0 t1 => wo t t0 (by omega)) hn.2 (by omega) hb (by rw [iw63 (by decide)]; exact e2) (by rw [iw63 (by decide)]; exact e3) (by rw [iw63 (by decide)]; exact e4) (by rw [iw63 (by decide)]; exact e8) (fun t t0 t1 => by rw [iw63 (by decide)]; exact (e19 t t0 t1).1) (fun t t0 t1 => by rw [iw63 (by decide)]; exact e20 t t0 t1) (s.1 15 3).toNat N 0 0 (by omega) (by decide) (by omega) (by decide) (by decide)
  refine OKc.q hI (s1 := s) (s2 := iw s 63 0 0) (x := if b = 1 then (0 + payS s a b (s.1 15 3).toNat 0) / s.1 15 0 else 0 + payS s a b (s.1 15 3).toNat 0) ?_ ?_ sameQ_thrown
  · unfold f159
    rw [c_isPerson, i_o2_some, if_pos h, if_neg (by decide), if_neg (by omega), if_pos hb.2]
    exact l1
  · unfold f283
    dsimp only
    rw [m_isPerson, i_o2_some, iw63 (by decide), e2, if_pos h, if_neg (by decide), m_within, i_o2_some, if_pos hb, if_neg (by decide)]
    exact l2
end PAYS
