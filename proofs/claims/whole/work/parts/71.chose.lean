/-! Promise 9: the hose; what the class does. -/
section CHOSE
variable {N : Nat} {s u : gI} {p q : Int → Int} {Q : Cf} {w x row d a b t : Int}
theorem wsh_no (h : ¬ wsh Q row a p x) : wsh1 Q row a p x = p ∧ wshB Q row a p x = 0 := ⟨if_neg h, if_neg fun hh => h hh.1⟩
theorem c_at43 {f : Int → Int → Int → Int → gI → Option (Int × gI)} {i z : Int} (r0 : 0 ≤ row ∧ row < 8) (i0 : 0 ≤ i ∧ i < 8) :
    f55_at43 N f x row b i z s = f x row (if s.1 13 (8 * row + i) = 7 ∧ z ≠ 0 then i else b) (i + 1) s := by
  unfold f55_at43
  rw [iov_ok (by omega) (by omega), iov_ok (by omega) (by omega), ick_ok (by omega) (by omega), show row * 8 + i = 8 * row + i by omega]
  by_cases g : s.1 13 (8 * row + i) = 7
  · rw [if_pos g]
    by_cases g2 : z = 0
    · rw [if_pos g2, iov_ok (by omega) (by omega), if_neg (show ¬ (s.1 13 (8 * row + i) = 7 ∧ z ≠ 0) from fun hh => hh.2 g2)]
    · rw [if_neg g2, iov_ok (by omega) (by omega), if_pos (show s.1 13 (8 * row + i) = 7 ∧ z ≠ 0 from ⟨g, g2⟩)]
  · rw [if_neg g, iov_ok (by omega) (by omega), if_neg (show ¬ (s.1 13 (8 * row + i) = 7 ∧ z ≠ 0) from fun hh => g hh.1)]
theorem c_near_lp (hw : cOK s) (r0 : 0 ≤ row ∧ row < 8) (x0 : 0 ≤ x ∧ x < 8) : ∀ (r fuel : Nat) (i b : Int), r < fuel → 0 ≤ i → i + r = s.1 12 0 → (b = -1 ∨ (0 ≤ b ∧ b < 8)) →
    f55_at5 N fuel x row b i s = some (nst (fun j => s.1 13 (8 * row + j)) x r i b, s) := by
  intro r
  induction r with
  | zero =>
    intro fuel i b hf i0 e hb
    obtain ⟨fuel, rfl⟩ : ∃ g, fuel = g + 1 := ⟨fuel - 1, by omega⟩
    unfold f55_at5
    rw [if_pos (by omega)]
    rfl
  | succ r ih =>
    intro fuel i b hf i0 e hb
    obtain ⟨fuel, rfl⟩ : ∃ g, fuel = g + 1 := ⟨fuel - 1, by omega⟩
    obtain ⟨⟨hW0, hW⟩, -, -, -⟩ := id hw
    unfold f55_at5 f55_at38 nst
    rw [if_neg (by omega)]
    by_cases g : b = -1
    · rw [if_pos g, c_at43 r0 (by omega), ih fuel (i + 1) _ (by omega) (by omega) (by omega) (by split <;> omega)]
      congr 3
      by_cases q : s.1 13 (8 * row + i) = 7
      · rw [if_pos (show s.1 13 (8 * row + i) = 7 ∧ (1 : Int) ≠ 0 from ⟨q, by decide⟩), if_pos (show s.1 13 (8 * row + i) = 7 ∧ (b = -1 ∨ far i x < far b x) from ⟨q, Or.inl g⟩)]
      · rw [if_neg (show ¬ (s.1 13 (8 * row + i) = 7 ∧ (1 : Int) ≠ 0) from fun h => q h.1), if_neg (show ¬ (s.1 13 (8 * row + i) = 7 ∧ (b = -1 ∨ far i x < far b x)) from fun h => q h.1)]
    · rw [if_neg g, iov_ok (by omega) (by omega), iov_ok (by omega) (by omega), iov_ok (by omega) (by omega), iov_ok (by omega) (by omega)]
      show (if far b x ≤ far i x then _ else _) = _
      by_cases g2 : far b x ≤ far i x
      · rw [if_pos g2, c_at43 r0 (by omega), ih fuel (i + 1) _ (by omega) (by omega) (by omega) (by split <;> omega)]
        congr 3
        rw [if_neg (fun h => h.2 rfl), if_neg (fun h => by have := h.2; omega)]
      · rw [if_neg g2, c_at43 r0 (by omega), ih fuel (i + 1) _ (by omega) (by omega) (by omega) (by split <;> omega)]
        congr 3
        by_cases q : s.1 13 (8 * row + i) = 7
        · rw [if_pos (show s.1 13 (8 * row + i) = 7 ∧ (1 : Int) ≠ 0 from ⟨q, by decide⟩), if_pos (show s.1 13 (8 * row + i) = 7 ∧ (b = -1 ∨ far i x < far b x) from ⟨q, Or.inr (by omega)⟩)]
        · rw [if_neg (show ¬ (s.1 13 (8 * row + i) = 7 ∧ (1 : Int) ≠ 0) from fun h => q h.1), if_neg (show ¬ (s.1 13 (8 * row + i) = 7 ∧ (b = -1 ∨ far i x < far b x)) from fun h => q h.1)]
theorem c_near (hN : 5000 ≤ N) (hw : cOK s) (r0 : 0 ≤ row ∧ row < 8) (x0 : 0 ≤ x ∧ x < 8) : f55 N x row s = some (pip (cQ s) row x, s) := by
  obtain ⟨⟨hW0, hW⟩, -, -, -⟩ := id hw
  have e : (cQ s).1 = s.1 12 0 := rfl
  unfold f55
  exact c_near_lp hw r0 x0 (cQ s).1.toNat N 0 (-1) (by omega) (by decide) (by omega) (Or.inl rfl)
theorem c_stepTo {m : Nat} (hw : cOK s) (hV : VV (cQ s) p) (hm : m < (cQ s).2.2.2.1) (r0 : 0 ≤ row ∧ row < s.1 12 1) (x0 : 0 ≤ x ∧ x < s.1 12 0) (hd : d = 1 ∨ d = -1) (hne : co (p m) ≠ 8 * row + (x + d)) :
    f82 N 9 (8 * row + x) (if d = 1 then 3 else 2) (cst s p) = some (if to1 (cQ s) p m (x + d) row < 0 then 8 * row + x else to1 (cQ s) p m (x + d) row, cst s p) := by
  obtain ⟨⟨hW0, hW⟩, ⟨hD0, hD⟩, -, -⟩ := id hw
  have on : onR (cQ s) (8 * row + x) := ⟨by omega, by omega, by show (8 * row + x) % 8 < s.1 12 0; omega, by show (8 * row + x) / 8 < s.1 12 1; omega⟩
  have ea : (8 * row + x) % 8 + ac ((if d = 1 then 3 else 2) + 1) = x + d ∧ (8 * row + x) / 8 + al ((if d = 1 then 3 else 2) + 1) = row := by
    rcases hd with g | g <;> subst g
    · rw [if_pos rfl]
      have a1 : ac (3 + 1) = 1 := rfl
      have a2 : al (3 + 1) = 0 := rfl
      omega
    · rw [if_neg (by decide)]
      have a1 : ac (2 + 1) = -1 := rfl
      have a2 : al (2 + 1) = 0 := rfl
      omega
  rw [c_step (cst_OK hw) (by rw [cst_Q]; exact on) (by split <;> decide) (by split <;> decide), cst_9, cst_ne (by decide) (by decide), cst_ne (by decide) (by decide), ea.1, ea.2]
  have e : cTo (s.1 12 0) (s.1 12 1) (s.1 13) (oC (s.1 13) (whof (cQ s) p (s.1 9))) (x + d) row = to1 (cQ s) p m (x + d) row := by
    unfold to1
    symm
    refine cTo_sim fun a1 a2 a3 a4 => ?_
    have a2 : x + d < s.1 12 0 := a2
    refine sg_ex hV whof_in (by omega) (by omega) fun k hk hkm hco => ?_
    have : k = m := by omega
    subst this
    exact hne hco
  rw [e]
theorem c_wash_lp {m : Nat} {c : Int} (hw : cOK s) (hV : VV (cQ s) p) (hm : m < (cQ s).2.2.2.1) (hd : d = 1 ∨ d = -1) : ∀ (k fuel : Nat) (x i : Int), k + 3 ≤ fuel → 0 ≤ i → i + k ≤ 7 → wkH (cQ s) row x d (k + 1) → (∀ j : Nat, 1 ≤ j → co (p m) ≠ 8 * row + (x + d * j)) →
    f56_at28 N fuel c m (if d = 1 then 3 else 2) (8 * row + x) i (cst s p) = f56_at104 N c m (wk (cQ s) p m row d (k + 1) x) (cst s p) := by
  obtain ⟨⟨hW0, hW⟩, ⟨hD0, hD⟩, -, -⟩ := id hw
  intro k
  induction k with
  | zero =>
    intro fuel x i hf i0 i1 h hne
    obtain ⟨F, rfl⟩ : ∃ F, fuel = F + 2 := ⟨fuel - 2, by omega⟩
    have r0 : 0 ≤ row ∧ row < s.1 12 1 := h.2.1
    have x0 : 0 ≤ x ∧ x < s.1 12 0 := h.2.2.1
    have ne1 := hne 1 (by decide)
    have e1 : x + d * ((1 : Nat) : Int) = x + d := by show x + d * 1 = x + d; rw [Int.mul_one]
    rw [e1] at ne1
    have ht := (wk_to (p := p) (t := (m : Int)) hW hD h).1 rfl
    have st := c_stepTo (N := N) hw hV hm r0 x0 hd ne1
    unfold f56_at28 wk
    rw [if_neg (by omega), if_neg (by omega), st, i_o2_some]
    by_cases g : to1 (cQ s) p m (x + d) row < 0
    · simp only [if_pos g, if_true]
    · simp only [if_neg g, if_true]
      rw [if_neg (by omega), if_pos (by omega)]
      unfold f56_at94
      rw [iov_ok (by omega) (by omega)]
      unfold f56_at28
      by_cases g2 : 8 ≤ i + 1
      · rw [if_pos g2]
      · rw [if_neg g2, if_pos (by omega)]
  | succ k ih =>
    intro fuel x i hf i0 i1 h hne
    obtain ⟨F, rfl⟩ : ∃ F, fuel = F + 1 := ⟨fuel - 1, by omega⟩
    have r0 : 0 ≤ row ∧ row < s.1 12 1 := h.2.1
    have x0 : 0 ≤ x ∧ x < s.1 12 0 := h.2.2.1
    have h' := wkH_next h
    have x1 : 0 ≤ x + d ∧ x + d < s.1 12 0 := h'.2.2.1
    have ne1 := hne 1 (by decide)
    have e1 : x + d * ((1 : Nat) : Int) = x + d := by show x + d * 1 = x + d; rw [Int.mul_one]
    rw [e1] at ne1
    have ht := (wk_to (p := p) (t := (m : Int)) hW hD h).2 (by omega)
    have st := c_stepTo (N := N) hw hV hm r0 x0 hd ne1
    unfold f56_at28 wk
    rw [if_neg (by omega), if_neg (by omega), st, i_o2_some]
    by_cases g : to1 (cQ s) p m (x + d) row < 0
    · simp only [if_pos g, if_true]
    · simp only [if_neg g]
      rw [ht (by omega), if_neg (by omega), if_neg (by omega), ick_ok (by omega) (by omega), cst_ne (by decide) (by decide), if_neg (show ¬ k + 1 = 0 by omega)]
      have e6 : (cQ s).2.2.1 (8 * row + (x + d)) = s.1 13 (8 * row + (x + d)) := rfl
      rw [e6]
      by_cases g2 : s.1 13 (8 * row + (x + d)) = 6
      · rw [if_pos g2, if_pos g2]
        unfold f56_at94
        rw [iov_ok (by omega) (by omega)]
        refine ih F (x + d) (i + 1) (by omega) (by omega) (by omega) h' fun j hj => ?_
        have := hne (j + 1) (by omega)
        have e2 : x + d * ((j + 1 : Nat) : Int) = x + d + d * (j : Int) := by
          rcases hd with q | q <;> subst q <;> omega
        rwa [e2] at this
      · rw [if_neg g2, if_neg g2]
theorem c_wash (hN : 5000 ≤ N) (hw : cOK s) (hV : VV (cQ s) p) (r0 : 0 ≤ row ∧ row < s.1 12 1) (x0 : 0 ≤ x ∧ x < s.1 12 0) (h : wsh (cQ s) row a p x) (ha : a ≤ 7) :
    f56 N (8 * row + x) (8 * row + pip (cQ s) row x) (cst s p) = some (wshB (cQ s) row a p x, cst s (wsh1 (cQ s) row a p x)) := by
  obtain ⟨⟨hW0, hW⟩, ⟨hD0, hD⟩, -, -⟩ := id hw
  have hn := cW_n hw
  obtain ⟨m, m1, m2, m3⟩ := wsh_t h.1
  obtain ⟨a1, -, hH, hP⟩ := wsh_H (Q := cQ s) (by show 0 ≤ s.1 12 0; omega) r0 x0 h
  have o9 : (cst s p).1 9 (8 * row + x) = m := by
    have : (cst s p).1 9 (8 * row + x) = occ2 p (8 * row + x) (cQ s).2.2.2.1 := by rw [cst_9]; exact if_pos ⟨by omega, by omega⟩
    rw [this, occ2_who hV (by omega) (by omega), if_neg (by rw [h.2.1]; decide), m2]
  have hd : wD (cQ s) row x = 1 ∨ wD (cQ s) row x = -1 := hH.1
  have ew : wsh1 (cQ s) row a p x = zup p m (wTo (cQ s) row a p x) := by unfold wsh1; rw [if_pos h, m2]
  have eb : wshB (cQ s) row a p x = if wTo (cQ s) row a p x = 8 * row + x then 0 else 1 := by
    unfold wshB
    by_cases g : wTo (cQ s) row a p x = 8 * row + x
    · rw [if_pos g, if_neg (fun hh => hh.2 g)]
    · rw [if_neg g, if_pos ⟨h, g⟩]
  have hz := wTo_okq (Q := cQ s) (by show 0 ≤ s.1 12 0; omega) hW hD r0 x0 hV h
  obtain ⟨k, hk⟩ : ∃ k : Nat, a.toNat = k + 1 := ⟨a.toNat - 1, by omega⟩
  have et : wTo (cQ s) row a p x = wk (cQ s) p m row (wD (cQ s) row x) (k + 1) x := by unfold wTo; rw [m2, hk]
  rw [m2] at hz
  rw [hk] at hH
  have hco : co (p m) = 8 * row + x := by rw [m3]; exact co_in (by omega)
  have lp := c_wash_lp (N := N) (c := 8 * row + x) hw hV m1 hd k N x 0 (by omega) (by decide) (by omega) hH (fun j hj => by
    rw [hco]
    rcases hd with q | q <;> rw [q] <;> omega)
  have fin : f56_at104 N (8 * row + x) m (wTo (cQ s) row a p x) (cst s p) = some (wshB (cQ s) row a p x, cst s (wsh1 (cQ s) row a p x)) := by
    unfold f56_at104
    rw [c_put hV hn m1 hz, i_o1_some, eb, ew]
    by_cases g : wTo (cQ s) row a p x = 8 * row + x
    · rw [if_pos g, if_pos g, ib1_ok (Or.inl rfl)]
    · rw [if_neg g, if_neg g, ib1_ok (Or.inr rfl)]
  rw [← et, fin] at lp
  unfold f56 f56_at20
  rw [ick_ok (by omega) (by omega)]
  dsimp only
  rw [o9]
  unfold wD at lp hP
  by_cases g : x ≤ pip (cQ s) row x
  · rw [if_pos (by omega)]
    rw [if_pos g, if_pos rfl] at lp
    exact lp
  · rw [if_neg (by omega)]
    rw [if_neg g, if_neg (by decide)] at lp
    exact lp
theorem c_row_lp (hN : 5000 ≤ N) (hw : cOK s) (r0 : 0 ≤ row ∧ row < s.1 12 1) (a0 : 1 ≤ a) (a1 : a ≤ 7) {f : Int → Int → Int → gI → Option (Int × gI)} : ∀ (r fuel : Nat) (x mv : Int) (p : Int → Int), r < fuel → 0 ≤ x → x + r = s.1 12 0 → VV (cQ s) p → 0 ≤ mv → mv + r ≤ 1000 →
    f54_at13 N f fuel row mv a x (cst s p) = f row (mv + wRN (cQ s) row a r x p) (a + 1) (cst s (wR (cQ s) row a r x p)) := by
  obtain ⟨⟨hW0, hW⟩, ⟨hD0, hD⟩, -, -⟩ := id hw
  intro r
  induction r with
  | zero =>
    intro fuel x mv p hf x0 e hV m0 m1
    obtain ⟨fuel, rfl⟩ : ∃ g, fuel = g + 1 := ⟨fuel - 1, by omega⟩
    unfold f54_at13 wRN wR
    rw [cst_ne (by decide) (by decide), if_pos (by omega), iov_ok (by omega) (by omega), Int.add_zero]
  | succ r ih =>
    intro fuel x mv p hf x0 e hV m0 m1
    obtain ⟨fuel, rfl⟩ : ∃ g, fuel = g + 1 := ⟨fuel - 1, by omega⟩
    have hV2 := VV_wsh1 (Q := cQ s) (a := a) (by show 0 ≤ s.1 12 0; omega) hW hD r0 (x := x) ⟨x0, by show x < s.1 12 0; omega⟩ hV
    have rb := wshB_rg (Q := cQ s) (row := row) (a := a) (p := p) (x := x)
    have go := ih fuel (x + 1) (mv + wshB (cQ s) row a p x) (wsh1 (cQ s) row a p x) (by omega) (by omega) (by omega) hV2 (by omega) (by omega)
    have skip : ¬ wsh (cQ s) row a p x → f54_at13 N f fuel row mv a (x + 1) (cst s p) = f row (mv + (wshB (cQ s) row a p x + wRN (cQ s) row a r (x + 1) (wsh1 (cQ s) row a p x))) (a + 1) (cst s (wR (cQ s) row a r (x + 1) (wsh1 (cQ s) row a p x))) := by
      intro h
      obtain ⟨h1, h2⟩ := wsh_no h
      rw [h1, h2, Int.add_zero] at go
      rw [h1, h2, Int.zero_add]
      exact go
    have skip2 : ∀ i2 x6 : Int, ¬ wsh (cQ s) row a p x → f54_at75 N (f54_at13 N f fuel) row mv a x i2 x6 (cst s p) = f row (mv + (wshB (cQ s) row a p x + wRN (cQ s) row a r (x + 1) (wsh1 (cQ s) row a p x))) (a + 1) (cst s (wR (cQ s) row a r (x + 1) (wsh1 (cQ s) row a p x))) := by
      intro i2 x6 h
      unfold f54_at75 f54_at76
      rw [if_pos rfl, iov_ok (by omega) (by omega)]
      exact skip h
    have near := c_near (N := N) (s := cst s p) (row := row) (x := x) hN (cst_OK hw) (by omega) (by omega)
    rw [cst_Q] at near
    have pr := pip_ok (Q := cQ s) (row := row) (x := x) (by show 0 ≤ s.1 12 0; omega)
    have eW : (cQ s).1 = s.1 12 0 := rfl
    have o9 : (cst s p).1 9 (8 * row + x) = occ2 p (8 * row + x) (cQ s).2.2.2.1 := by rw [cst_9]; exact if_pos ⟨by omega, by omega⟩
    have o92 := occ2_who hV (d := 8 * row + x) (by omega) (by omega)
    unfold f54_at13 wRN wR
    rw [cst_ne (by decide) (by decide), if_neg (by omega), iov_ok (by omega) (by omega), iov_ok (by omega) (by omega)]
    dsimp only
    rw [near, i_o2_some, show row * 8 + x = 8 * row + x by omega, ick_ok (by omega) (by omega), ick_ok (by omega) (by omega), o9, cst_ne (by decide) (by decide)]
    have e6 : (cQ s).2.2.1 (8 * row + x) = s.1 13 (8 * row + x) := rfl
    by_cases g2 : s.1 13 (8 * row + x) = 6
    rotate_left
    · have no : ¬ wsh (cQ s) row a p x := fun hh => g2 hh.2.1
      by_cases g1 : occ2 p (8 * row + x) (cQ s).2.2.2.1 < 0
      · rw [if_pos g1]
        exact skip2 _ _ no
      · rw [if_neg g1, if_neg g2]
        exact skip2 _ _ no
    rw [if_neg (by rw [e6, g2]; decide)] at o92
    rw [o92]
    by_cases g1 : occ p (8 * row + x) (-1) (cQ s).2.2.2.1 < 0
    · rw [if_pos g1]
      exact skip2 _ _ (fun hh => by have := hh.1; omega)
    rw [if_neg g1, if_pos g2]
    unfold f54_at76
    rw [if_neg (by decide)]
    by_cases g3 : pip (cQ s) row x = -1
    · rw [if_pos g3, iov_ok (by omega) (by omega)]
      exact skip (fun hh => hh.2.2.1 g3)
    have pr2 : 0 ≤ pip (cQ s) row x ∧ pip (cQ s) row x < s.1 12 0 := by omega
    rw [if_neg g3, iov_ok (by omega) (by omega), iov_ok (by omega) (by omega)]
    show (if far (pip (cQ s) row x) x = a then _ else _) = _
    by_cases g4 : far (pip (cQ s) row x) x = a
    rotate_left
    · rw [if_neg g4, iov_ok (by omega) (by omega)]
      exact skip (fun hh => g4 hh.2.2.2)
    rw [if_pos g4, iov_ok (by omega) (by omega), iov_ok (by omega) (by omega), show row * 8 + pip (cQ s) row x = 8 * row + pip (cQ s) row x by omega, c_wash hN hw hV r0 ⟨x0, by omega⟩ ⟨by omega, g2, g3, g4⟩ a1, i_o2_some, ← Int.add_assoc]
    by_cases g5 : wshB (cQ s) row a p x = 0
    · rw [if_pos g5, iov_ok (by omega) (by omega), g5, Int.add_zero]
      rw [g5, Int.add_zero] at go
      exact go
    · rw [if_neg g5, iov_ok (by omega) (by omega), iov_ok (by omega) (by omega), show mv + 1 = mv + wshB (cQ s) row a p x by omega]
      exact go
theorem c_wA_lp (hN : 5000 ≤ N) (hw : cOK s) (r0 : 0 ≤ row ∧ row < s.1 12 1) : ∀ (r fuel : Nat) (a mv : Int) (p : Int → Int), r < fuel → 1 ≤ a → a + r = 8 → VV (cQ s) p → 0 ≤ mv → mv + 8 * r ≤ 100 →
    f54_at4 N fuel row mv a (cst s p) = some (mv + wAN (cQ s) row r a p, cst s (wA (cQ s) row r a p)) := by
  obtain ⟨⟨hW0, hW⟩, ⟨hD0, hD⟩, -, -⟩ := id hw
  intro r
  induction r with
  | zero =>
    intro fuel a mv p hf a0 e hV m0 m1
    obtain ⟨fuel, rfl⟩ : ∃ g, fuel = g + 1 := ⟨fuel - 1, by omega⟩
    unfold f54_at4 wAN wA
    rw [if_pos (by omega), Int.add_zero]
  | succ r ih =>
    intro fuel a mv p hf a0 e hV m0 m1
    obtain ⟨fuel, rfl⟩ : ∃ g, fuel = g + 1 := ⟨fuel - 1, by omega⟩
    have eW : (cQ s).1 = s.1 12 0 := rfl
    have rg := wRN_rg (Q := cQ s) (row := row) (a := a) (cQ s).1.toNat 0 p
    have hV2 := VV_wR (Q := cQ s) (a := a) (by omega) hW hD r0 (cQ s).1.toNat 0 p (by decide) (by omega) hV
    unfold f54_at4 wAN wA
    rw [if_neg (by omega), c_row_lp hN hw r0 (by omega) (by omega) (cQ s).1.toNat N 0 mv p (by omega) (by decide) (by omega) hV m0 (by omega), ih fuel (a + 1) _ _ (by omega) (by omega) (by omega) hV2 (by omega) (by omega), Int.add_assoc]
theorem c_washRow (hN : 5000 ≤ N) (hw : cOK s) (r0 : 0 ≤ row ∧ row < s.1 12 1) (hV : VV (cQ s) p) : f54 N row (cst s p) = some (wAN (cQ s) row 7 1 p, cst s (wA (cQ s) row 7 1 p)) := by
  have := c_wA_lp (N := N) hN hw r0 7 N 1 0 p (by omega) (by decide) (by decide) hV (by decide) (by decide)
  rw [Int.zero_add] at this
  exact this
end CHOSE
