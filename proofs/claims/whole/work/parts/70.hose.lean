/-! Promise 9: the hose; the class. -/
section HOSE
variable {N : Nat} {s u : gI} {p q T : Int → Int} {Q R : Cf} {w x row d a b t : Int}
/-- the nearest pipe of a row, the first of two -/
def nst (T : Int → Int) (x : Int) : Nat → Int → Int → Int
  | 0, _, b => b
  | r + 1, i, b => nst T x r (i + 1) (if T i = 7 ∧ (b = -1 ∨ far i x < far b x) then i else b)
theorem nst_ok : ∀ (r : Nat) (i b : Int), 0 ≤ i → (b = -1 ∨ (0 ≤ b ∧ b < i ∧ T b = 7)) →
    (nst T x r i b = -1 ∧ b = -1 ∧ ∀ j, i ≤ j → j < i + r → T j ≠ 7) ∨ (0 ≤ nst T x r i b ∧ nst T x r i b < i + r ∧ T (nst T x r i b) = 7 ∧ (b = -1 ∨ far (nst T x r i b) x ≤ far b x) ∧ ∀ j, i ≤ j → j < i + r → T j = 7 → far (nst T x r i b) x ≤ far j x)
  | 0, i, b, i0, hb => by
    unfold nst
    rcases hb with h | ⟨h1, h2, h3⟩
    · exact Or.inl ⟨h, h, fun j j0 j1 => by omega⟩
    · exact Or.inr ⟨h1, by omega, h3, Or.inr (Int.le_refl _), fun j j0 j1 => by omega⟩
  | r + 1, i, b, i0, hb => by
    unfold nst
    by_cases g : T i = 7 ∧ (b = -1 ∨ far i x < far b x)
    · rw [if_pos g]
      rcases nst_ok r (i + 1) i (by omega) (Or.inr ⟨i0, by omega, g.1⟩) with ⟨h1, h2, h3⟩ | ⟨h1, h2, h3, h4, h5⟩
      · omega
      · refine Or.inr ⟨h1, by omega, h3, ?_, fun j j0 j1 hj => ?_⟩
        · rcases g.2 with e | e
          · exact Or.inl e
          · rcases h4 with f | f
            · omega
            · exact Or.inr (by omega)
        · by_cases e : j = i
          · subst e
            rcases h4 with f | f
            · omega
            · exact f
          · exact h5 j (by omega) (by omega) hj
    · rw [if_neg g]
      rcases nst_ok r (i + 1) b (by omega) (hb.imp id fun h => ⟨h.1, by omega, h.2.2⟩) with ⟨h1, h2, h3⟩ | ⟨h1, h2, h3, h4, h5⟩
      · refine Or.inl ⟨h1, h2, fun j j0 j1 hj => ?_⟩
        by_cases e : j = i
        · subst e; exact g ⟨hj, Or.inl h2⟩
        · exact h3 j (by omega) (by omega) hj
      · refine Or.inr ⟨h1, by omega, h3, h4, fun j j0 j1 hj => ?_⟩
        by_cases e : j = i
        · subst e
          by_cases f : b = -1
          · exact absurd ⟨hj, Or.inl f⟩ g
          · have : ¬ far j x < far b x := fun hh => g ⟨hj, Or.inr hh⟩
            rcases h4 with h4 | h4
            · omega
            · omega
        · exact h5 j (by omega) (by omega) hj
theorem nst_congr {U : Int → Int} : ∀ (r : Nat) (i b : Int), (∀ j, i ≤ j → j < i + r → T j = U j) → nst T x r i b = nst U x r i b
  | 0, _, _, _ => rfl
  | r + 1, i, b, h => by
    unfold nst
    rw [h i (by omega) (by omega), nst_congr r (i + 1) _ (fun j j0 j1 => h j (by omega) (by omega))]
def pip (Q : Cf) (row x : Int) : Int := nst (fun i => Q.2.2.1 (8 * row + i)) x Q.1.toNat 0 (-1)
theorem pip_ok (hW : 0 ≤ Q.1) : (pip Q row x = -1 ∧ ∀ j, 0 ≤ j → j < Q.1 → Q.2.2.1 (8 * row + j) ≠ 7) ∨ (0 ≤ pip Q row x ∧ pip Q row x < Q.1 ∧ Q.2.2.1 (8 * row + pip Q row x) = 7 ∧ ∀ j, 0 ≤ j → j < Q.1 → Q.2.2.1 (8 * row + j) = 7 → far (pip Q row x) x ≤ far j x) := by
  rcases nst_ok (T := fun i => Q.2.2.1 (8 * row + i)) (x := x) Q.1.toNat 0 (-1) (by decide) (Or.inl rfl) with ⟨h1, -, h3⟩ | ⟨h1, h2, h3, -, h5⟩
  · exact Or.inl ⟨h1, fun j j0 j1 => h3 j j0 (by omega)⟩
  · refine Or.inr ⟨h1, ?_, h3, fun j j0 j1 => h5 j j0 (by omega)⟩
    have : nst (fun i => Q.2.2.1 (8 * row + i)) x Q.1.toNat 0 (-1) < 0 + Q.1.toNat := h2
    unfold pip
    omega
/-- washed along the gutter, the pipe so many cells away -/
def wk (Q : Cf) (p : Int → Int) (t row d : Int) : Nat → Int → Int
  | 0, x => 8 * row + x
  | m + 1, x => if to1 Q p t (x + d) row < 0 then 8 * row + x else if m = 0 then to1 Q p t (x + d) row else if Q.2.2.1 (8 * row + (x + d)) = 6 then wk Q p t row d m (x + d) else 8 * row + x
/-- a way to the nearest pipe -/
def wkH (Q : Cf) (row x d : Int) (m : Nat) : Prop := (d = 1 ∨ d = -1) ∧ (0 ≤ row ∧ row < Q.2.1) ∧ (0 ≤ x ∧ x < Q.1) ∧ (0 ≤ x + d * m ∧ x + d * m < Q.1) ∧ Q.2.2.1 (8 * row + (x + d * m)) = 7 ∧ ∀ j : Nat, j < m → Q.2.2.1 (8 * row + (x + d * j)) ≠ 7
theorem wkH_next {m : Nat} (h : wkH Q row x d (m + 1)) : wkH Q row (x + d) d m := by
  obtain ⟨h1, h2, h3, h4, h5, h6⟩ := h
  have e : ∀ j : Nat, x + d * ((j + 1 : Nat) : Int) = x + d + d * (j : Int) := fun j => by
    rcases h1 with g | g <;> subst g <;> omega
  rw [e] at h4 h5
  refine ⟨h1, h2, ?_, h4, h5, fun j hj => ?_⟩
  · rcases h1 with g | g <;> subst g <;> omega
  · rw [← e]; exact h6 (j + 1) (by omega)
/-- what the next cell is -/
theorem wk_to {m : Nat} (hW : Q.1 ≤ 8) (hD : Q.2.1 ≤ 8) (h : wkH Q row x d (m + 1)) : (m = 0 → to1 Q p t (x + d) row < 0 ∨ 64 ≤ to1 Q p t (x + d) row) ∧ (m ≠ 0 → 0 ≤ to1 Q p t (x + d) row → to1 Q p t (x + d) row = 8 * row + (x + d)) := by
  have h2 := wkH_next h
  refine ⟨fun e => ?_, fun e hz => ?_⟩
  · subst e
    obtain ⟨-, -, -, -, h5, -⟩ := h2
    have e0 : x + d + d * ((0 : Nat) : Int) = x + d := by
      show x + d + d * 0 = x + d
      rw [Int.mul_zero, Int.add_zero]
    rw [e0] at h5
    by_cases g : to1 Q p t (x + d) row < 0
    · exact Or.inl g
    · by_cases g2 : 64 ≤ to1 Q p t (x + d) row
      · exact Or.inr g2
      · exact absurd h5 (cTo_tl (o := exO Q p t) hW hD (by show 0 ≤ to1 Q p t (x + d) row; omega) (by show to1 Q p t (x + d) row < 64; omega)).2.2.1
  · obtain ⟨-, b, c, -, -, h6⟩ := h2
    have n7 := h6 0 (by omega)
    have e0 : x + d + d * ((0 : Nat) : Int) = x + d := by
      show x + d + d * 0 = x + d
      rw [Int.mul_zero, Int.add_zero]
    rw [e0] at n7
    unfold to1 cTo at hz ⊢
    rw [if_neg (by omega), if_neg (by omega), if_pos b.2, if_pos b.1] at hz ⊢
    by_cases g : Q.2.2.1 (8 * row + (x + d)) = 8
    · rw [if_pos g] at hz; omega
    rw [if_neg g] at hz ⊢
    by_cases g2 : exO Q p t (8 * row + (x + d)) < 0
    · rw [if_pos g2, if_neg n7]
    · rw [if_neg g2] at hz; omega
theorem wk_at (hW : Q.1 ≤ 8) (hD : Q.2.1 ≤ 8) : ∀ (m : Nat) (x : Int), wkH Q row x d (m + 1) → 64 ≤ wk Q p t row d (m + 1) x ∨ ∃ j : Nat, j ≤ m ∧ wk Q p t row d (m + 1) x = 8 * row + (x + d * j) := by
  intro m
  induction m with
  | zero =>
    intro x h
    have := (wk_to (p := p) (t := t) hW hD h).1 rfl
    unfold wk
    by_cases g : to1 Q p t (x + d) row < 0
    · rw [if_pos g]
      refine Or.inr ⟨0, Nat.le_refl _, ?_⟩
      show _ = 8 * row + (x + d * 0)
      rw [Int.mul_zero, Int.add_zero]
    · rw [if_neg g, if_pos rfl]
      exact Or.inl (by omega)
  | succ m ih =>
    intro x h
    have e0 : 8 * row + x = 8 * row + (x + d * ((0 : Nat) : Int)) := by
      show _ = 8 * row + (x + d * 0)
      rw [Int.mul_zero, Int.add_zero]
    unfold wk
    by_cases g : to1 Q p t (x + d) row < 0
    · rw [if_pos g]
      exact Or.inr ⟨0, by omega, e0⟩
    rw [if_neg g, if_neg (by omega)]
    by_cases g2 : Q.2.2.1 (8 * row + (x + d)) = 6
    · rw [if_pos g2]
      rcases ih (x + d) (wkH_next h) with f | ⟨j, j1, f⟩
      · exact Or.inl f
      · refine Or.inr ⟨j + 1, by omega, ?_⟩
        rw [f]
        rcases h.1 with e | e <;> subst e <;> omega
    · rw [if_neg g2]
      exact Or.inr ⟨0, by omega, e0⟩
theorem wk_okq (hW : Q.1 ≤ 8) (hD : Q.2.1 ≤ 8) : ∀ (m : Nat) (x : Int), wkH Q row x d m → okq Q p t (8 * row + x) → okq Q p t (wk Q p t row d m x) := by
  intro m
  induction m with
  | zero => intro x _ h; exact h
  | succ m ih =>
    intro x h ho
    unfold wk
    by_cases g : to1 Q p t (x + d) row < 0
    · rw [if_pos g]; exact ho
    have hz := to1_ok (Q := Q) (p := p) (t := t) hW hD (x := x + d) (y := row) (by omega)
    rw [if_neg g]
    by_cases g1 : m = 0
    · rw [if_pos g1]; exact hz
    rw [if_neg g1]
    by_cases g2 : Q.2.2.1 (8 * row + (x + d)) = 6
    · rw [if_pos g2]
      rw [(wk_to (p := p) (t := t) hW hD h).2 g1 (by omega)] at hz
      exact ih (x + d) (wkH_next h) hz
    · rw [if_neg g2]; exact ho
/-- what lies here, on a gutter with a pipe so far away -/
abbrev wsh (Q : Cf) (row a : Int) (p : Int → Int) (x : Int) : Prop := 0 ≤ occ p (8 * row + x) (-1) Q.2.2.2.1 ∧ Q.2.2.1 (8 * row + x) = 6 ∧ pip Q row x ≠ -1 ∧ far (pip Q row x) x = a
def wD (Q : Cf) (row x : Int) : Int := if x ≤ pip Q row x then 1 else -1
def wTo (Q : Cf) (row a : Int) (p : Int → Int) (x : Int) : Int := wk Q p (occ p (8 * row + x) (-1) Q.2.2.2.1) row (wD Q row x) a.toNat x
def wsh1 (Q : Cf) (row a : Int) (p : Int → Int) (x : Int) : Int → Int := if wsh Q row a p x then zup p (occ p (8 * row + x) (-1) Q.2.2.2.1) (wTo Q row a p x) else p
def wshB (Q : Cf) (row a : Int) (p : Int → Int) (x : Int) : Int := if wsh Q row a p x ∧ wTo Q row a p x ≠ 8 * row + x then 1 else 0
def wR (Q : Cf) (row a : Int) : Nat → Int → (Int → Int) → Int → Int
  | 0, _, p => p
  | r + 1, x, p => wR Q row a r (x + 1) (wsh1 Q row a p x)
def wRN (Q : Cf) (row a : Int) : Nat → Int → (Int → Int) → Int
  | 0, _, _ => 0
  | r + 1, x, p => wshB Q row a p x + wRN Q row a r (x + 1) (wsh1 Q row a p x)
def wA (Q : Cf) (row : Int) : Nat → Int → (Int → Int) → Int → Int
  | 0, _, p => p
  | r + 1, a, p => wA Q row r (a + 1) (wR Q row a Q.1.toNat 0 p)
def wAN (Q : Cf) (row : Int) : Nat → Int → (Int → Int) → Int
  | 0, _, _ => 0
  | r + 1, a, p => wRN Q row a Q.1.toNat 0 p + wAN Q row r (a + 1) (wR Q row a Q.1.toNat 0 p)
theorem far_abs {i x : Int} : (x ≤ i ∧ far i x = i - x) ∨ (i < x ∧ far i x = x - i) := by
  unfold far
  by_cases h : 0 ≤ i - x
  · rw [if_pos h]; exact Or.inl ⟨by omega, rfl⟩
  · rw [if_neg h]; exact Or.inr ⟨by omega, by omega⟩
/-- a way to the nearest pipe indeed -/
theorem wsh_H (hW : 0 ≤ Q.1) (r0 : 0 ≤ row ∧ row < Q.2.1) (x0 : 0 ≤ x ∧ x < Q.1) (h : wsh Q row a p x) : 1 ≤ a ∧ a < 8 + Q.1 ∧ wkH Q row x (wD Q row x) a.toNat ∧ pip Q row x = x + wD Q row x * (a.toNat : Int) := by
  obtain ⟨-, h2, h3, h4⟩ := h
  rcases pip_ok (Q := Q) (row := row) (x := x) hW with ⟨g, -⟩ | ⟨g1, g2, g3, g4⟩
  · exact absurd g h3
  have ne : pip Q row x ≠ x := fun e => by rw [e, h2] at g3; omega
  generalize hP : pip Q row x = P at g1 g2 g3 g4 ne h4
  have e : wD Q row x = if x ≤ P then 1 else -1 := by unfold wD; rw [hP]
  rw [e]
  have fa := far_abs (i := P) (x := x)
  by_cases g : x ≤ P
  · rw [if_pos g]
    have e1 : x + 1 * (a.toNat : Int) = P := by omega
    refine ⟨by omega, by omega, ⟨Or.inl rfl, r0, x0, by omega, by rw [e1]; exact g3, fun j hj h7 => ?_⟩, e1.symm⟩
    have := g4 (x + 1 * (j : Int)) (by omega) (by omega) h7
    have := far_abs (i := x + 1 * (j : Int)) (x := x)
    omega
  · rw [if_neg g]
    have e1 : x + -1 * (a.toNat : Int) = P := by omega
    refine ⟨by omega, by omega, ⟨Or.inr rfl, r0, x0, by omega, by rw [e1]; exact g3, fun j hj h7 => ?_⟩, e1.symm⟩
    have := g4 (x + -1 * (j : Int)) (by omega) (by omega) h7
    have := far_abs (i := x + -1 * (j : Int)) (x := x)
    omega
/-- who lies there -/
theorem wsh_t (h : 0 ≤ occ p (8 * row + x) (-1) Q.2.2.2.1) : ∃ m : Nat, m < Q.2.2.2.1 ∧ occ p (8 * row + x) (-1) Q.2.2.2.1 = m ∧ p m = 8 * row + x := by
  have := occ_rg p (8 * row + x) (-1) Q.2.2.2.1
  have h2 := occ_at Q.2.2.2.1 h
  obtain ⟨m, hm⟩ := Int.eq_ofNat_of_zero_le h
  refine ⟨m, by omega, hm, ?_⟩
  rw [hm] at h2
  exact h2.1
theorem wTo_okq (hW0 : 0 ≤ Q.1) (hW : Q.1 ≤ 8) (hD : Q.2.1 ≤ 8) (r0 : 0 ≤ row ∧ row < Q.2.1) (x0 : 0 ≤ x ∧ x < Q.1) (hV : VV Q p) (h : wsh Q row a p x) : okq Q p (occ p (8 * row + x) (-1) Q.2.2.2.1) (wTo Q row a p x) := by
  obtain ⟨m, m1, m2, m3⟩ := wsh_t h.1
  refine wk_okq hW hD _ _ (wsh_H hW0 r0 x0 h).2.2.1 ?_
  rw [m2, ← m3]
  exact hV m m1
theorem VV_wsh1 (hW0 : 0 ≤ Q.1) (hW : Q.1 ≤ 8) (hD : Q.2.1 ≤ 8) (r0 : 0 ≤ row ∧ row < Q.2.1) (x0 : 0 ≤ x ∧ x < Q.1) (hV : VV Q p) : VV Q (wsh1 Q row a p x) := by
  unfold wsh1
  split
  · rename_i h
    exact VV_zup hV (wTo_okq hW0 hW hD r0 x0 hV h)
  · exact hV
theorem VV_wR (hW0 : 0 ≤ Q.1) (hW : Q.1 ≤ 8) (hD : Q.2.1 ≤ 8) (r0 : 0 ≤ row ∧ row < Q.2.1) : ∀ (r : Nat) (x : Int) (p : Int → Int), 0 ≤ x → x + r ≤ Q.1 → VV Q p → VV Q (wR Q row a r x p)
  | 0, _, _, _, _, h => h
  | r + 1, x, p, h0, h1, h => by
    unfold wR
    exact VV_wR hW0 hW hD r0 r (x + 1) _ (by omega) (by omega) (VV_wsh1 hW0 hW hD r0 ⟨h0, by omega⟩ h)
theorem VV_wA (hW0 : 0 ≤ Q.1) (hW : Q.1 ≤ 8) (hD : Q.2.1 ≤ 8) (r0 : 0 ≤ row ∧ row < Q.2.1) : ∀ (r : Nat) (a : Int) (p : Int → Int), VV Q p → VV Q (wA Q row r a p)
  | 0, _, _, h => h
  | r + 1, a, p, h => by
    unfold wA
    exact VV_wA hW0 hW hD r0 r (a + 1) _ (VV_wR hW0 hW hD r0 _ 0 _ (by decide) (by omega) h)
theorem wsh1_ne {j : Int} (h : j < 0 ∨ (Q.2.2.2.1 : Int) ≤ j) : wsh1 Q row a p x j = p j := by
  unfold wsh1
  split
  · rename_i g
    have := occ_rg p (8 * row + x) (-1) Q.2.2.2.1
    have := g.1
    exact zup_ne (by omega)
  · rfl
theorem wR_ne {j : Int} (h : j < 0 ∨ (Q.2.2.2.1 : Int) ≤ j) : ∀ (r : Nat) (x : Int) (p : Int → Int), wR Q row a r x p j = p j
  | 0, _, _ => rfl
  | r + 1, x, p => by
    unfold wR
    rw [wR_ne h r (x + 1) _, wsh1_ne h]
theorem wA_ne {j : Int} (h : j < 0 ∨ (Q.2.2.2.1 : Int) ≤ j) : ∀ (r : Nat) (a : Int) (p : Int → Int), wA Q row r a p j = p j
  | 0, _, _ => rfl
  | r + 1, a, p => by
    unfold wA
    rw [wA_ne h r (a + 1) _, wR_ne h]
theorem wshB_rg : 0 ≤ wshB Q row a p x ∧ wshB Q row a p x ≤ 1 := by
  unfold wshB
  split <;> omega
theorem wRN_rg : ∀ (r : Nat) (x : Int) (p : Int → Int), 0 ≤ wRN Q row a r x p ∧ wRN Q row a r x p ≤ r
  | 0, _, _ => ⟨Int.le_refl _, Int.le_refl _⟩
  | r + 1, x, p => by
    have := wRN_rg r (x + 1) (wsh1 Q row a p x)
    have := wshB_rg (Q := Q) (row := row) (a := a) (p := p) (x := x)
    unfold wRN
    omega
end HOSE
