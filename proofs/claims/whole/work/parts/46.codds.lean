/-! ODDS and GAIN: the class. -/
def wgt (arm z : Int) : Int := if z = 0 then 8 * arm else 10 - arm
def soV (T : Int → Int) (h t what : Int) : Int :=
  if what = 0 then (if h = -1 then 0 else if T h = 64 then 1 else 0) else if what = 1 then (if tol (T t) = 64 then 1 else 0) else if what = 2 then (if 64 ≤ tol (T t) then 0 else 1)
  else if what = 3 then (if tol (T t) = 65 then 1 else 0) else (if tol (T t) = 66 then 1 else 0)
/-- behind a throw that slips by z -/
def TZ (Q : Cf) (p : Int → Int) (t cell z : Int) : Int → Int := thrown Q p t (cell % 8 + sX z) (cell / 8 + sY z)
def HZ (Q : Cf) (p : Int → Int) (t cell z : Int) : Int := hitOf Q p t (cell % 8 + sX z) (cell / 8 + sY z)
def gnV (wo T : Int → Int) (h t : Int) : Int := (if T t = 64 then 0 else -(wo t)) + (if h = -1 then 0 else if T h = 64 then wo h else 0)
/-- the class in the steady phase: roof, scene, yard are sound -/
def CS (s : gI) : Prop := cOK s ∧ scOK s ∧ VV (cQ s) (s.1 7) ∧ (∀ i, 0 ≤ i → i < 4 → 0 ≤ s.1 16 i ∧ s.1 16 i ≤ 10) ∧ cWo s
section CODDS
variable {N : Nat} {s : gI} {p : Int → Int}
theorem i_slipX {z : Int} (h0 : 0 ≤ z) (h1 : z ≤ 8) : i_c 1000 z = sX z := by
  rw [i_c_def]
  rcases slip_cases h0 h1 with h | h | h | h | h | h | h | h | h <;> subst h <;> rfl
theorem i_slipY {z : Int} (h0 : 0 ≤ z) (h1 : z ≤ 8) : i_c 1001 z = sY z := by
  rw [i_c_def]
  rcases slip_cases h0 h1 with h | h | h | h | h | h | h | h | h <;> subst h <;> rfl
theorem c_weight {a z : Int} (h0 : 0 ≤ a) (h1 : a ≤ 10) : f172 N a z s = some (wgt a z, s) := by
  unfold f172 wgt
  simp (disch := omega) only [ick_ok, iov_ok, iol_ok, idv_ok, ich_ok, icp_ok, i_o2_some, i_o1_some]
  split <;> rfl
theorem wgt_rg {a z : Int} (h0 : 0 ≤ a) (h1 : a ≤ 10) : 0 ≤ wgt a z ∧ wgt a z ≤ 80 := by
  unfold wgt
  split <;> omega
theorem hit_rg {Q : Cf} {t x y : Int} (hn : Q.2.2.2.1 ≤ 8) : -1 ≤ hitOf Q p t x y ∧ hitOf Q p t x y < 8 := by
  unfold hitOf
  split
  · omega
  · have := occ_rg p (8 * y + x) t Q.2.2.2.1
    omega
theorem c_isSo {T : Int → Int} {t h w : Int} (ht0 : 0 ≤ t) (ht : t < 8) (h0 : -1 ≤ h) (h1 : h < 8) : f2 N t h w (cst s T) = some (soV T h t w, cst s T) := by
  unfold f2 soV
  rw [ick_ok ht0 ht, c_told, i_o2_some, cst_7]
  by_cases w0 : w = 0
  · rw [if_pos w0, if_pos w0]
    by_cases g : h = -1
    · rw [if_pos g, if_pos g, ib1_ok (Or.inl rfl)]
    · rw [if_neg g, if_neg g, ick_ok (by omega) h1]
      by_cases g2 : T h = 64
      · rw [if_pos g2, if_pos g2, ib1_ok (Or.inr rfl)]
      · rw [if_neg g2, if_neg g2, ib1_ok (Or.inl rfl)]
  rw [if_neg w0, if_neg w0]
  have e01 : ∀ (c : Prop) [Decidable c] (u : gI), (if c then ib1 (1 : Int) (some ((1 : Int), u)) else ib1 (0 : Int) (some ((0 : Int), u))) = some (if c then 1 else 0, u) := by
    intro c _ u
    split
    · exact ib1_ok (Or.inr rfl)
    · exact ib1_ok (Or.inl rfl)
  have e10 : ∀ (c : Prop) [Decidable c] (u : gI), (if c then ib1 (0 : Int) (some ((0 : Int), u)) else ib1 (1 : Int) (some ((1 : Int), u))) = some (if c then 0 else 1, u) := by
    intro c _ u
    split
    · exact ib1_ok (Or.inl rfl)
    · exact ib1_ok (Or.inr rfl)
  simp only [e01, e10]
  split
  · rfl
  · split
    · rfl
    · split <;> rfl
theorem CS_self (h : CS s) : cst s (s.1 7) = s := cst_self h.2.1
theorem c_chance_lp (hN : 5000 ≤ N) (hs : CS s) {per m : Nat} {cell w : Int} (hper : per < 4) (hm : m < (cQ s).2.2.2.1) (hp : s.1 7 m = 64) (hc0 : 0 ≤ cell) (hc1 : cell < 64) : ∀ (k z fuel : Nat), z + k = 9 → k < fuel →
    f1_at6 N fuel per m cell w (sumN (fun z => if soV (TZ (cQ s) (s.1 7) m cell z) (HZ (cQ s) (s.1 7) m cell z) m w = 0 then 0 else wgt (s.1 16 per) z) z) z s =
      some (sumN (fun z => if soV (TZ (cQ s) (s.1 7) m cell z) (HZ (cQ s) (s.1 7) m cell z) m w = 0 then 0 else wgt (s.1 16 per) z) 9, s) := by
  obtain ⟨hw, hsc, hV, ha, hwo⟩ := id hs
  have hn := cW_n hw
  obtain ⟨a0, a1⟩ := ha per (by omega) (by omega)
  intro k
  induction k with
  | zero =>
    intro z fuel h hf
    obtain ⟨fuel, rfl⟩ : ∃ g, fuel = g + 1 := ⟨fuel - 1, by omega⟩
    unfold f1_at6
    rw [if_pos (by omega), show z = 9 by omega]
  | succ k ih =>
    intro z fuel h hf
    obtain ⟨fuel, rfl⟩ : ∃ g, fuel = g + 1 := ⟨fuel - 1, by omega⟩
    have ih := ih (z + 1) fuel (by omega) (by omega)
    have e1 : ((z : Int) + 1) = ((z + 1 : Nat) : Int) := by omega
    have e2 : sumN (fun z => if soV (TZ (cQ s) (s.1 7) m cell z) (HZ (cQ s) (s.1 7) m cell z) m w = 0 then 0 else wgt (s.1 16 per) z) (z + 1) = sumN (fun z => if soV (TZ (cQ s) (s.1 7) m cell z) (HZ (cQ s) (s.1 7) m cell z) m w = 0 then 0 else wgt (s.1 16 per) z) z + (if soV (TZ (cQ s) (s.1 7) m cell z) (HZ (cQ s) (s.1 7) m cell z) m w = 0 then 0 else wgt (s.1 16 per) z) := rfl
    have r : ∀ j : Nat, j ≤ 9 → 0 ≤ sumN (fun z => if soV (TZ (cQ s) (s.1 7) m cell z) (HZ (cQ s) (s.1 7) m cell z) m w = 0 then 0 else wgt (s.1 16 per) z) j ∧ _ := fun j hj => sumN_rg (n := 9) (fun j _ => by
      have := wgt_rg (z := j) a0 a1
      split <;> omega) j hj
    have r := r z (by omega)
    rw [e2] at ih
    unfold f1_at6
    have rx := sX_rg (z := z) (by omega) (by omega)
    have ry := sY_rg (z := z) (by omega) (by omega)
    rw [if_neg (by omega)]
    simp (disch := omega) only [ick_ok, iov_ok, iol_ok, idv_ok, ich_ok, icp_ok, i_o2_some, i_o1_some, i_slipX, i_slipY]
    have l1 := c_land (N := N) (s := s) (p := s.1 7) (m := m) (x := cell % 8 + sX z) (y := cell / 8 + sY z) hN hw hV hm hp (by omega) (by omega)
    rw [CS_self hs] at l1
    have l2 := c_takeBack (N := N) (s := s) (p := s.1 7) (m := m) (x := cell % 8 + sX z) (y := cell / 8 + sY z) hw hV hm hp (by omega) (by omega)
    rw [CS_self hs] at l2
    have hr := hit_rg (Q := cQ s) (p := s.1 7) (t := m) (x := cell % 8 + sX z) (y := cell / 8 + sY z) hn
    have e3 : soV (TZ (cQ s) (s.1 7) m cell z) (HZ (cQ s) (s.1 7) m cell z) m w = soV (thrown (cQ s) (s.1 7) m (cell % 8 + sX z) (cell / 8 + sY z)) (hitOf (cQ s) (s.1 7) m (cell % 8 + sX z) (cell / 8 + sY z)) m w := rfl
    rw [l1, i_o2_some, c_isSo (by omega) (by omega) hr.1 hr.2, i_o2_some, ← e3]
    unfold f1_at87
    by_cases h2 : soV (TZ (cQ s) (s.1 7) m cell z) (HZ (cQ s) (s.1 7) m cell z) m w = 0
    · rw [if_pos h2, l2, i_o1_some, iov_ok (by omega) (by omega), e1]
      rw [if_pos h2, Int.add_zero] at ih
      exact ih
    · have rw1 := wgt_rg (z := z) a0 a1
      rw [if_neg h2, cst_ne (by decide) (by decide), c_weight a0 a1, i_o2_some, iov_ok (by omega) (by omega)]
      dsimp only
      rw [l2, i_o1_some, iov_ok (by omega) (by omega), e1]
      rw [if_neg h2] at ih
      exact ih
theorem c_chance (hN : 5000 ≤ N) (hs : CS s) {per m : Nat} {cell w : Int} (hper : per < 4) (hm : m < (cQ s).2.2.2.1) (hp : s.1 7 m = 64) (hc0 : 0 ≤ cell) (hc1 : cell < 64) :
    f1 N per m cell w s = some (sumN (fun z => if soV (TZ (cQ s) (s.1 7) m cell z) (HZ (cQ s) (s.1 7) m cell z) m w = 0 then 0 else wgt (s.1 16 per) z) 9, s) :=
  c_chance_lp hN hs hper hm hp hc0 hc1 9 0 N (by omega) (by omega)
theorem c_landingGain (hN : 5000 ≤ N) (hs : CS s) {m : Nat} {x y : Int} (hm : m < (cQ s).2.2.2.1) (hp : s.1 7 m = 64) (hx : -1 ≤ x ∧ x ≤ 100) (hy : -100 ≤ y ∧ y ≤ 100) :
    f4 N m x y s = some (gnV (s.1 20) (thrown (cQ s) (s.1 7) m x y) (hitOf (cQ s) (s.1 7) m x y) m, s) := by
  obtain ⟨hw, hsc, hV, ha, hwo⟩ := id hs
  have hn := cW_n hw
  have l1 := c_land (N := N) (s := s) (p := s.1 7) (m := m) hN hw hV hm hp hx hy
  rw [CS_self hs] at l1
  have l2 := c_takeBack (N := N) (s := s) (p := s.1 7) (m := m) hw hV hm hp hx hy
  rw [CS_self hs] at l2
  have hr := hit_rg (Q := cQ s) (p := s.1 7) (t := m) (x := x) (y := y) hn
  have wm := hwo m (by omega) (by omega)
  unfold f4
  rw [l1, i_o2_some, ick_ok (by omega) (by omega), cst_7]
  generalize thrown (cQ s) (s.1 7) m x y = T at l2
  generalize hitOf (cQ s) (s.1 7) m x y = h at l2 hr
  have main : ∀ a : Int, -99 ≤ a → a ≤ 0 → f4_at43 N m x y h a (cst s T) = some (a + (if h = -1 then 0 else if T h = 64 then s.1 20 h else 0), s) := by
    intro a ha0 ha1
    unfold f4_at43 f4_at84
    by_cases g : h = -1
    · rw [if_pos g, if_pos g, l2, i_o1_some, Int.add_zero]
    · have wh := hwo h (by omega) (by omega)
      rw [if_neg g, if_neg g, ick_ok (by omega) hr.2, cst_7]
      by_cases g2 : T h = 64
      · rw [if_pos g2, if_pos g2, cst_ne (by decide) (by decide), ick_ok (by omega) hr.2, iov_ok (by omega) (by omega)]
        dsimp only
        rw [l2, i_o1_some]
      · rw [if_neg g2, if_neg g2, l2, i_o1_some, Int.add_zero]
  unfold gnV
  by_cases g : T m = 64
  · rw [if_pos g, if_pos g, main 0 (by decide) (by decide)]
  · rw [if_neg g, if_neg g, cst_ne (by decide) (by decide), ick_ok (by omega) (by omega), iov_ok (by omega) (by omega), main _ (by omega) (by omega)]
theorem gnV_rg (hwo : cWo s) {T : Int → Int} {h t : Int} (ht0 : 0 ≤ t) (ht : t < 8) (h0 : -1 ≤ h) (h1 : h < 8) : -99 ≤ gnV (s.1 20) T h t ∧ gnV (s.1 20) T h t ≤ 99 := by
  have a1 := hwo t ht0 ht
  unfold gnV
  by_cases g : h = -1
  · rw [if_pos g]
    split <;> omega
  · have a2 := hwo h (by omega) h1
    rw [if_neg g]
    split
    · split <;> omega
    · split <;> omega
theorem sumN_rgB {f : Nat → Int} {n : Nat} {B : Int} (h : ∀ k, k < n → -B ≤ f k ∧ f k ≤ B) : ∀ k : Nat, k ≤ n → -(B * k) ≤ sumN f k ∧ sumN f k ≤ B * k
  | 0, _ => ⟨by simp [sumN], by simp [sumN]⟩
  | k + 1, hk => by
    have ih := sumN_rgB h k (by omega)
    have := h k (by omega)
    have e : B * ((k + 1 : Nat) : Int) = B * k + B := by
      rw [show ((k + 1 : Nat) : Int) = (k : Int) + 1 by omega, Int.mul_add, Int.mul_one]
    unfold sumN
    rw [e]
    omega
/-- products of weights and what they weigh stay small -/
theorem mul_rg {a b : Int} (h0 : 0 ≤ a) (h1 : a ≤ 80) (h2 : -1000 ≤ b) (h3 : b ≤ 1000) : -80000 ≤ a * b ∧ a * b ≤ 80000 := by
  have e1 : a * b ≤ a * 1000 := Int.mul_le_mul_of_nonneg_left h3 h0
  have e2 : a * (-1000) ≤ a * b := Int.mul_le_mul_of_nonneg_left h2 h0
  omega
theorem c_gainOf_lp (hN : 5000 ≤ N) (hs : CS s) {per m : Nat} {cell : Int} (hper : per < 4) (hm : m < (cQ s).2.2.2.1) (hp : s.1 7 m = 64) (hc0 : 0 ≤ cell) (hc1 : cell < 64) : ∀ (k z fuel : Nat), z + k = 9 → k < fuel →
    f3_at6 N fuel per m cell (sumN (fun z => wgt (s.1 16 per) z * gnV (s.1 20) (TZ (cQ s) (s.1 7) m cell z) (HZ (cQ s) (s.1 7) m cell z) m) z) z s =
      some (sumN (fun z => wgt (s.1 16 per) z * gnV (s.1 20) (TZ (cQ s) (s.1 7) m cell z) (HZ (cQ s) (s.1 7) m cell z) m) 9, s) := by
  obtain ⟨hw, hsc, hV, ha, hwo⟩ := id hs
  have hn := cW_n hw
  obtain ⟨a0, a1⟩ := ha per (by omega) (by omega)
  intro k
  induction k with
  | zero =>
    intro z fuel h hf
    obtain ⟨fuel, rfl⟩ : ∃ g, fuel = g + 1 := ⟨fuel - 1, by omega⟩
    unfold f3_at6
    rw [if_pos (by omega), show z = 9 by omega]
  | succ k ih =>
    intro z fuel h hf
    obtain ⟨fuel, rfl⟩ : ∃ g, fuel = g + 1 := ⟨fuel - 1, by omega⟩
    have ih := ih (z + 1) fuel (by omega) (by omega)
    have e1 : ((z : Int) + 1) = ((z + 1 : Nat) : Int) := by omega
    have gr : ∀ j : Nat, -99 ≤ gnV (s.1 20) (TZ (cQ s) (s.1 7) m cell j) (HZ (cQ s) (s.1 7) m cell j) m ∧ gnV (s.1 20) (TZ (cQ s) (s.1 7) m cell j) (HZ (cQ s) (s.1 7) m cell j) m ≤ 99 := fun j => by
      have hr := hit_rg (Q := cQ s) (p := s.1 7) (t := m) (x := cell % 8 + sX j) (y := cell / 8 + sY j) hn
      exact gnV_rg hwo (by omega) (by omega) hr.1 hr.2
    have mr : ∀ j : Nat, _ := fun j => by
      have g := gr j
      have w := wgt_rg (z := j) a0 a1
      exact mul_rg w.1 w.2 (b := gnV (s.1 20) (TZ (cQ s) (s.1 7) m cell j) (HZ (cQ s) (s.1 7) m cell j) m) (by omega) (by omega)
    have r := sumN_rgB (f := fun z => wgt (s.1 16 per) z * gnV (s.1 20) (TZ (cQ s) (s.1 7) m cell z) (HZ (cQ s) (s.1 7) m cell z) m) (n := 9) (B := 80000) (fun j _ => mr j) z (by omega)
    have e2 : sumN (fun z => wgt (s.1 16 per) z * gnV (s.1 20) (TZ (cQ s) (s.1 7) m cell z) (HZ (cQ s) (s.1 7) m cell z) m) (z + 1) = sumN (fun z => wgt (s.1 16 per) z * gnV (s.1 20) (TZ (cQ s) (s.1 7) m cell z) (HZ (cQ s) (s.1 7) m cell z) m) z + wgt (s.1 16 per) z * gnV (s.1 20) (TZ (cQ s) (s.1 7) m cell z) (HZ (cQ s) (s.1 7) m cell z) m := rfl
    rw [e2] at ih
    have mz := mr z
    unfold f3_at6
    have rx := sX_rg (z := z) (by omega) (by omega)
    have ry := sY_rg (z := z) (by omega) (by omega)
    rw [if_neg (by omega)]
    simp (disch := omega) only [ick_ok, iov_ok, iol_ok, idv_ok, ich_ok, icp_ok, i_o2_some, i_o1_some, i_slipX, i_slipY]
    rw [c_landingGain hN hs hm hp (by omega) (by omega), i_o2_some, c_weight a0 a1, i_o2_some]
    have e3 : gnV (s.1 20) (thrown (cQ s) (s.1 7) m (cell % 8 + sX z) (cell / 8 + sY z)) (hitOf (cQ s) (s.1 7) m (cell % 8 + sX z) (cell / 8 + sY z)) m = gnV (s.1 20) (TZ (cQ s) (s.1 7) m cell z) (HZ (cQ s) (s.1 7) m cell z) m := rfl
    rw [e3, iov_ok (by omega) (by omega), iov_ok (by omega) (by omega), e1]
    exact ih
theorem c_gainOf (hN : 5000 ≤ N) (hs : CS s) {per m : Nat} {cell : Int} (hper : per < 4) (hm : m < (cQ s).2.2.2.1) (hp : s.1 7 m = 64) (hc0 : 0 ≤ cell) (hc1 : cell < 64) :
    f3 N per m cell s = some (sumN (fun z => wgt (s.1 16 per) z * gnV (s.1 20) (TZ (cQ s) (s.1 7) m cell z) (HZ (cQ s) (s.1 7) m cell z) m) 9, s) :=
  c_gainOf_lp hN hs hper hm hp hc0 hc1 9 0 N (by omega) (by omega)
end CODDS
