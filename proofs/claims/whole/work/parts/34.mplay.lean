/-! The reference: who is where, coming to a cell, rolling, throwing. -/
section MPLAY
variable {N : Nat} {s : gI}
theorem m_wide : f218 N s = some (s.1 69 0, s) := by simp (disch := omega) only [f218, ick_ok, iov_ok, iol_ok, idv_ok, ich_ok, icp_ok, i_o2_some, i_o1_some]
theorem m_deep : f219 N s = some (s.1 69 1, s) := by simp (disch := omega) only [f219, ick_ok, iov_ok, iol_ok, idv_ok, ich_ok, icp_ok, i_o2_some, i_o1_some]
theorem m_people : f220 N s = some (s.1 71 0, s) := by simp (disch := omega) only [f220, ick_ok, iov_ok, iol_ok, idv_ok, ich_ok, icp_ok, i_o2_some, i_o1_some]
theorem m_things : f221 N s = some (s.1 71 1, s) := by simp (disch := omega) only [f221, ick_ok, iov_ok, iol_ok, idv_ok, ich_ok, icp_ok, i_o2_some, i_o1_some]
theorem m_tileAt {c : Int} (h0 : 0 ≤ c) (h1 : c < 64) : f225 N c s = some (s.1 69 (2 + c), s) := by simp (disch := omega) only [f225, ick_ok, iov_ok, iol_ok, idv_ok, ich_ok, icp_ok, i_o2_some, i_o1_some]
theorem m_thingOf {t w : Int} (h0 : 0 ≤ t) (h1 : t < 8) (h2 : 0 ≤ w) (h3 : w < 3) : f226 N t w s = some (s.1 71 (14 + 3 * t + w), s) := by simp (disch := omega) only [f226, ick_ok, iov_ok, iol_ok, idv_ok, ich_ok, icp_ok, i_o2_some, i_o1_some]
theorem m_isPerson {p : Int} : f222 N p s = some (if 0 ≤ p ∧ p < s.1 71 0 then 1 else 0, s) := by
  simp (disch := omega) only [f222, m_people, ick_ok, iov_ok, iol_ok, idv_ok, ich_ok, icp_ok, i_o2_some, i_o1_some, ib1_ok]
  by_cases h : p < 0
  · rw [if_pos h, if_neg (show ¬ (0 ≤ p ∧ p < s.1 71 0) by omega)]
  · rw [if_neg h]
    by_cases h2 : s.1 71 0 ≤ p
    · rw [if_pos h2, if_neg (show ¬ (0 ≤ p ∧ p < s.1 71 0) by omega)]
    · rw [if_neg h2, if_pos (show 0 ≤ p ∧ p < s.1 71 0 by omega)]
theorem m_isThing {p : Int} : f223 N p s = some (if 0 ≤ p ∧ p < s.1 71 1 then 1 else 0, s) := by
  simp (disch := omega) only [f223, m_things, ick_ok, iov_ok, iol_ok, idv_ok, ich_ok, icp_ok, i_o2_some, i_o1_some, ib1_ok]
  by_cases h : p < 0
  · rw [if_pos h, if_neg (show ¬ (0 ≤ p ∧ p < s.1 71 1) by omega)]
  · rw [if_neg h]
    by_cases h2 : s.1 71 1 ≤ p
    · rw [if_pos h2, if_neg (show ¬ (0 ≤ p ∧ p < s.1 71 1) by omega)]
    · rw [if_neg h2, if_pos (show 0 ≤ p ∧ p < s.1 71 1 by omega)]
theorem m_isCell {x y : Int} : f224 N x y s = some (if 0 ≤ x ∧ x < s.1 69 0 ∧ 0 ≤ y ∧ y < s.1 69 1 then 1 else 0, s) := by
  simp (disch := omega) only [f224, m_wide, m_deep, ick_ok, iov_ok, iol_ok, idv_ok, ich_ok, icp_ok, i_o2_some, i_o1_some, ib1_ok]
  by_cases h : x < 0
  · rw [if_pos h, if_neg (show ¬ (0 ≤ x ∧ x < s.1 69 0 ∧ 0 ≤ y ∧ y < s.1 69 1) by omega)]
  rw [if_neg h]
  by_cases h2 : s.1 69 0 ≤ x
  · rw [if_pos h2, if_neg (show ¬ (0 ≤ x ∧ x < s.1 69 0 ∧ 0 ≤ y ∧ y < s.1 69 1) by omega)]
  rw [if_neg h2]
  by_cases h3 : y < 0
  · rw [if_pos h3, if_neg (show ¬ (0 ≤ x ∧ x < s.1 69 0 ∧ 0 ≤ y ∧ y < s.1 69 1) by omega)]
  rw [if_neg h3]
  by_cases h4 : s.1 69 1 ≤ y
  · rw [if_pos h4, if_neg (show ¬ (0 ≤ x ∧ x < s.1 69 0 ∧ 0 ≤ y ∧ y < s.1 69 1) by omega)]
  · rw [if_neg h4, if_pos (show 0 ≤ x ∧ x < s.1 69 0 ∧ 0 ≤ y ∧ y < s.1 69 1 by omega)]
theorem m_thingAt_lp (hN : s.1 71 1 ≤ 8) {b c but : Int} (hb0 : 0 ≤ b) (hb : b ≤ 692) : ∀ (m k fuel : Nat), (k : Int) + m = s.1 71 1 → m < fuel → f227_at6 N fuel b c but (occ (sh b (s.1 78)) c but k) k s = some (occ (sh b (s.1 78)) c but (k + m), s) := by
  intro m
  induction m with
  | zero =>
    intro k fuel h hf
    obtain ⟨fuel, rfl⟩ : ∃ g, fuel = g + 1 := ⟨fuel - 1, by omega⟩
    simp (disch := omega) only [f227_at6, m_things, ick_ok, iov_ok, iol_ok, idv_ok, ich_ok, icp_ok, i_o2_some, i_o1_some]
    rw [if_pos (by omega)]
    rfl
  | succ m ih =>
    intro k fuel h hf
    obtain ⟨fuel, rfl⟩ : ∃ g, fuel = g + 1 := ⟨fuel - 1, by omega⟩
    simp (disch := omega) only [f227_at6, f227_at43, m_things, ick_ok, iov_ok, iol_ok, idv_ok, ich_ok, icp_ok, i_o2_some, i_o1_some]
    rw [if_neg (by omega), if_neg (by omega)]
    have e1 : ((k : Int) + 1) = ((k + 1 : Nat) : Int) := by omega
    have e2 : k + (m + 1) = k + 1 + m := by omega
    have ih := ih (k + 1) fuel (by omega) (by omega)
    rw [e2, e1]
    by_cases hk : (k : Int) = but
    · rw [if_pos hk]
      have e3 : occ (sh b (s.1 78)) c but (k + 1) = occ (sh b (s.1 78)) c but k := if_pos hk
      rw [e3] at ih
      exact ih
    · rw [if_neg hk]
      by_cases h2 : s.1 78 (b + k) = c
      · rw [if_pos h2]
        have e3 : occ (sh b (s.1 78)) c but (k + 1) = k := (if_neg hk).trans (if_pos h2)
        rw [e3] at ih
        exact ih
      · rw [if_neg h2]
        have e3 : occ (sh b (s.1 78)) c but (k + 1) = occ (sh b (s.1 78)) c but k := (if_neg hk).trans (if_neg h2)
        rw [e3] at ih
        exact ih
theorem m_thingAt (hN : 5000 ≤ N) (h0 : 0 ≤ s.1 71 1) (h8 : s.1 71 1 ≤ 8) {b c but : Int} (hb0 : 0 ≤ b) (hb : b ≤ 692) : f227 N b c but s = some (occ (sh b (s.1 78)) c but (s.1 71 1).toNat, s) := by
  have := m_thingAt_lp (N := N) h8 (c := c) (but := but) hb0 hb (s.1 71 1).toNat 0 N (by omega) (by omega)
  rw [Nat.zero_add] at this
  exact this
theorem m_thingAt_none (hN : 5000 ≤ N) {b c but : Int} (hb : b < 0) : f227 N b c but s = some (-1, s) := by
  obtain ⟨N, rfl⟩ : ∃ g, N = g + 1 := ⟨N - 1, by omega⟩
  unfold f227
  simp (disch := omega) only [f227_at6, m_things, ick_ok, iov_ok, iol_ok, idv_ok, ich_ok, icp_ok, i_o2_some, i_o1_some]
  rw [if_pos hb]
  split <;> rfl
/-- how the model is laid out: the roof's row and the yard's row are sound -/
def mOK (s : gI) : Prop := (2 ≤ s.1 69 0 ∧ s.1 69 0 ≤ 8) ∧ (2 ≤ s.1 69 1 ∧ s.1 69 1 ≤ 8) ∧ (0 ≤ s.1 71 1 ∧ s.1 71 1 ≤ 8)
/-- what the model's rows say of roof and things -/
def mQ (s : gI) : Cf := (s.1 69 0, s.1 69 1, sh 2 (s.1 69), (s.1 71 1).toNat, fun t => s.1 71 (14 + 3 * t))
/-- who else is where, as the model sees it: nobody where no state is named -/
def mO (s : gI) (b t : Int) : Int → Int := fun c => if b < 0 then -1 else occ (sh b (s.1 78)) c t (s.1 71 1).toNat
theorem m_at (hN : 5000 ≤ N) (hw : mOK s) {b c t : Int} (hb : b ≤ 692) : f227 N b c t s = some (mO s b t c, s) := by
  unfold mO
  by_cases h : b < 0
  · rw [if_pos h]; exact m_thingAt_none hN h
  · rw [if_neg h]; exact m_thingAt hN hw.2.2.1 hw.2.2.2 (by omega) hb
theorem m_comesTo (hN : 5000 ≤ N) (hw : mOK s) {b t x y : Int} (hb : b ≤ 692) (hx : x ≤ 10000) (hy : -10000 ≤ y ∧ y ≤ 10000) : f228 N b t x y s = some (cTo (s.1 69 0) (s.1 69 1) (sh 2 (s.1 69)) (mO s b t) x y, s) := by
  obtain ⟨⟨hW0, hW⟩, ⟨hD0, hD⟩, -⟩ := id hw
  unfold f228 cTo
  by_cases h1 : x < 0
  · rw [if_pos h1, if_pos h1]
  rw [if_neg h1, if_neg h1]
  simp only [m_wide, m_deep, i_o2_some]
  by_cases h2 : s.1 69 0 ≤ x
  · rw [if_pos h2, if_pos h2]
  rw [if_neg h2, if_neg h2]
  by_cases h3 : y < s.1 69 1
  rotate_left
  · rw [if_neg h3, if_neg h3]
  rw [if_pos h3, if_pos h3]
  by_cases h4 : 0 ≤ y
  rotate_left
  · rw [if_neg h4, if_neg h4]
  rw [if_pos h4, if_pos h4]
  simp (disch := omega) only [m_tileAt, m_at hN hw hb, ick_ok, iov_ok, iol_ok, idv_ok, ich_ok, icp_ok, i_o2_some, i_o1_some]
  rw [sh_at]
  by_cases h5 : s.1 69 (2 + (8 * y + x)) = 8
  · rw [if_pos h5, if_pos h5]
  rw [if_neg h5, if_neg h5]
  by_cases h6 : mO s b t (8 * y + x) < 0
  rotate_left
  · rw [if_neg h6, if_neg h6]
  rw [if_pos h6, if_pos h6]
  by_cases h7 : s.1 69 (2 + (8 * y + x)) = 7
  rotate_left
  · rw [if_neg h7, if_neg h7]
  rw [if_pos h7, if_pos h7]
  by_cases h8 : mO s b t (128 + (8 * y + x)) < 0
  · rw [if_pos h8, if_pos h8]
  · rw [if_neg h8, if_neg h8]
theorem m_across {z : Int} : f229 N z s = some (ac z, s) := by
  unfold f229 ac
  split
  · rfl
  · split <;> rfl
theorem m_along {z : Int} : f230 N z s = some (al z, s) := by
  unfold f230 al
  split
  · rfl
  · split <;> rfl
end MPLAY
