/-! Sums over the things. -/
def sumN (f : Nat → Int) : Nat → Int
  | 0 => 0
  | k + 1 => sumN f k + f k
def tol (z : Int) : Int := if z < 128 then z else 66
def wIn (p wo : Int → Int) (n : Nat) : Int := sumN (fun k => if p k = 64 then wo k else 0) n
def cntAt (p : Int → Int) (w : Int) (n : Nat) : Int := sumN (fun k => if tol (p k) = w then 1 else 0) n
def lostB (z : Int) : Prop := z ≠ 64 ∧ z ≠ 65
def cntL (p : Int → Int) (n : Nat) : Int := sumN (fun k => if p k = 64 then 0 else if p k = 65 then 0 else 1) n
def wL (p wo : Int → Int) (n : Nat) : Int := sumN (fun k => if p k = 64 then 0 else if p k = 65 then 0 else wo k) n
section SUMS
theorem sumN_rg {f : Nat → Int} {n : Nat} (h : ∀ k, k < n → 0 ≤ f k ∧ f k ≤ 99) : ∀ k, k ≤ n → 0 ≤ sumN f k ∧ sumN f k ≤ 99 * k
  | 0, _ => ⟨by simp [sumN], by simp [sumN]⟩
  | k + 1, hk => by
    have ih := sumN_rg h k (by omega)
    have := h k (by omega)
    unfold sumN
    omega
theorem sumN_congr {f g : Nat → Int} : ∀ n, (∀ k, k < n → f k = g k) → sumN f n = sumN g n
  | 0, _ => rfl
  | n + 1, h => by
    unfold sumN
    rw [sumN_congr n (fun k hk => h k (by omega)), h n (by omega)]
theorem wIn_congr {p q wo wo2 : Int → Int} {n : Nat} (hp : ∀ k : Nat, k < n → p k = q k) (hw : ∀ k : Nat, k < n → wo k = wo2 k) : wIn p wo n = wIn q wo2 n :=
  sumN_congr n fun k hk => by rw [hp k hk, hw k hk]
theorem cntAt_congr {p q : Int → Int} {w : Int} {n : Nat} (hp : ∀ k : Nat, k < n → p k = q k) : cntAt p w n = cntAt q w n :=
  sumN_congr n fun k hk => by rw [hp k hk]
theorem cntL_congr {p q : Int → Int} {n : Nat} (hp : ∀ k : Nat, k < n → p k = q k) : cntL p n = cntL q n :=
  sumN_congr n fun k hk => by rw [hp k hk]
theorem wL_congr {p q wo wo2 : Int → Int} {n : Nat} (hp : ∀ k : Nat, k < n → p k = q k) (hw : ∀ k : Nat, k < n → wo k = wo2 k) : wL p wo n = wL q wo2 n :=
  sumN_congr n fun k hk => by rw [hp k hk, hw k hk]
variable {N : Nat} {s : gI}
/-- worths as the class has them -/
def cWo (s : gI) : Prop := ∀ t, 0 ≤ t → t < 8 → 0 ≤ s.1 20 t ∧ s.1 20 t ≤ 99
def mWo (s : gI) : Prop := ∀ t, 0 ≤ t → t < 8 → 0 ≤ s.1 71 (14 + 3 * t + 2) ∧ s.1 71 (14 + 3 * t + 2) ≤ 99
theorem c_worth_lp (hn : s.1 15 3 ≤ 8) (hw : cWo s) : ∀ (m k fuel : Nat), (k : Int) + m = s.1 15 3 → m < fuel →
    f70_at4 N fuel (sumN (fun k => if s.1 7 k = 64 then s.1 20 k else 0) k) k s = some (sumN (fun k => if s.1 7 k = 64 then s.1 20 k else 0) (k + m), s) := by
  intro m
  induction m with
  | zero =>
    intro k fuel h hf
    obtain ⟨fuel, rfl⟩ : ∃ g, fuel = g + 1 := ⟨fuel - 1, by omega⟩
    unfold f70_at4
    rw [if_pos (by omega)]
    rfl
  | succ m ih =>
    intro k fuel h hf
    obtain ⟨fuel, rfl⟩ : ∃ g, fuel = g + 1 := ⟨fuel - 1, by omega⟩
    have r := sumN_rg (f := fun k => if s.1 7 k = 64 then s.1 20 k else 0) (n := 8) (fun j hj => by
      have := hw j (by omega) (by omega)
      split <;> omega) k (by omega)
    have rk := hw k (by omega) (by omega)
    have ih := ih (k + 1) fuel (by omega) (by omega)
    rw [show k + (m + 1) = k + 1 + m by omega]
    have e1 : ((k : Int) + 1) = ((k + 1 : Nat) : Int) := by omega
    have e2 : sumN (fun k => if s.1 7 k = 64 then s.1 20 k else 0) (k + 1) = sumN (fun k => if s.1 7 k = 64 then s.1 20 k else 0) k + (if s.1 7 k = 64 then s.1 20 k else 0) := rfl
    rw [e2] at ih
    unfold f70_at4 f70_at43
    rw [if_neg (by omega)]
    generalize sumN (fun k => if s.1 7 k = 64 then s.1 20 k else 0) k = a at r ih
    simp (disch := omega) only [ick_ok, iov_ok, iol_ok, idv_ok, ich_ok, icp_ok, i_o2_some, i_o1_some]
    rw [e1]
    by_cases h2 : s.1 7 k = 64
    · rw [if_pos h2] at ih ⊢
      exact ih
    · rw [if_neg h2] at ih ⊢
      exact ih
theorem c_worth (hN : 5000 ≤ N) (hw : cOK s) (hw2 : cWo s) : f70 N s = some (wIn (s.1 7) (s.1 20) (s.1 15 3).toNat, s) := by
  have := c_worth_lp (N := N) (s := s) hw.2.2.1.2 hw2 (s.1 15 3).toNat 0 N (by have := hw.2.2.1; omega) (by have := hw.2.2.1; omega)
  rw [Nat.zero_add] at this
  exact this
theorem m_worth_lp (hn : s.1 71 1 ≤ 8) (hw : mWo s) {b : Int} (hb0 : 0 ≤ b) (hb : b ≤ 690) : ∀ (m k fuel : Nat), (k : Int) + m = s.1 71 1 → m < fuel →
    f261_at4 N fuel b (sumN (fun k => if sh b (s.1 78) k = 64 then s.1 71 (14 + 3 * k + 2) else 0) k) k s = some (sumN (fun k => if sh b (s.1 78) k = 64 then s.1 71 (14 + 3 * k + 2) else 0) (k + m), s) := by
  intro m
  induction m with
  | zero =>
    intro k fuel h hf
    obtain ⟨fuel, rfl⟩ : ∃ g, fuel = g + 1 := ⟨fuel - 1, by omega⟩
    unfold f261_at4
    rw [m_things, i_o2_some, if_pos (by omega)]
    rfl
  | succ m ih =>
    intro k fuel h hf
    obtain ⟨fuel, rfl⟩ : ∃ g, fuel = g + 1 := ⟨fuel - 1, by omega⟩
    have r := sumN_rg (f := fun k => if sh b (s.1 78) k = 64 then s.1 71 (14 + 3 * k + 2) else 0) (n := 8) (fun j hj => by
      have := hw j (by omega) (by omega)
      split <;> omega) k (by omega)
    have rk := hw k (by omega) (by omega)
    have ih := ih (k + 1) fuel (by omega) (by omega)
    rw [show k + (m + 1) = k + 1 + m by omega]
    have e1 : ((k : Int) + 1) = ((k + 1 : Nat) : Int) := by omega
    have e2 : sumN (fun k => if sh b (s.1 78) k = 64 then s.1 71 (14 + 3 * k + 2) else 0) (k + 1) = sumN (fun k => if sh b (s.1 78) k = 64 then s.1 71 (14 + 3 * k + 2) else 0) k + (if sh b (s.1 78) k = 64 then s.1 71 (14 + 3 * k + 2) else 0) := rfl
    rw [e2] at ih
    unfold f261_at4 f261_at36
    rw [m_things, i_o2_some, if_neg (by omega)]
    generalize sumN (fun k => if sh b (s.1 78) k = 64 then s.1 71 (14 + 3 * k + 2) else 0) k = a at r ih
    simp (disch := omega) only [ick_ok, iov_ok, iol_ok, idv_ok, ich_ok, icp_ok, i_o2_some, i_o1_some, m_thingOf]
    rw [e1]
    rw [sh_at] at ih
    by_cases h2 : s.1 78 (b + k) = 64
    · rw [if_pos h2] at ih ⊢
      exact ih
    · rw [if_neg h2] at ih ⊢
      exact ih
/-- worths as the model's rows have them -/
def mwo (s : gI) : Int → Int := fun t => s.1 71 (14 + 3 * t + 2)
theorem m_worth (hN : 5000 ≤ N) (hw : mOK s) (hw2 : mWo s) {b : Int} (hb0 : 0 ≤ b) (hb : b ≤ 690) : f261 N b s = some (wIn (sh b (s.1 78)) (mwo s) (s.1 71 1).toNat, s) := by
  have := m_worth_lp (N := N) (s := s) hw.2.2.2 hw2 hb0 hb (s.1 71 1).toNat 0 N (by have := hw.2.2; omega) (by have := hw.2.2; omega)
  rw [Nat.zero_add] at this
  exact this
theorem sum01 {f : Nat → Int} (h : ∀ k, f k = 0 ∨ f k = 1) (k : Nat) (hk : k ≤ 8) : 0 ≤ sumN f k ∧ sumN f k ≤ 800 := by
  have := sumN_rg (f := f) (n := k) (fun j _ => by have := h j; omega) k (Nat.le_refl _)
  omega
theorem m_inHand_lp (hn : s.1 71 1 ≤ 8) {b : Int} (hb0 : 0 ≤ b) (hb : b ≤ 690) : ∀ (m k fuel : Nat), (k : Int) + m = s.1 71 1 → m < fuel →
    f267_at4 N fuel b (sumN (fun k => if sh b (s.1 78) k = 64 then 1 else 0) k) k s = some (sumN (fun k => if sh b (s.1 78) k = 64 then 1 else 0) (k + m), s) := by
  intro m
  induction m with
  | zero =>
    intro k fuel h hf
    obtain ⟨fuel, rfl⟩ : ∃ g, fuel = g + 1 := ⟨fuel - 1, by omega⟩
    unfold f267_at4
    rw [m_things, i_o2_some, if_pos (by omega)]
    rfl
  | succ m ih =>
    intro k fuel h hf
    obtain ⟨fuel, rfl⟩ : ∃ g, fuel = g + 1 := ⟨fuel - 1, by omega⟩
    have r := sum01 (f := fun k => if sh b (s.1 78) k = 64 then 1 else 0) (fun j => by split <;> omega) k (by omega)
    have ih := ih (k + 1) fuel (by omega) (by omega)
    rw [show k + (m + 1) = k + 1 + m by omega]
    have e1 : ((k : Int) + 1) = ((k + 1 : Nat) : Int) := by omega
    have e2 : sumN (fun k => if sh b (s.1 78) k = 64 then 1 else 0) (k + 1) = sumN (fun k => if sh b (s.1 78) k = 64 then 1 else 0) k + (if sh b (s.1 78) k = 64 then 1 else 0) := rfl
    rw [e2] at ih
    unfold f267_at4 f267_at31
    rw [m_things, i_o2_some, if_neg (by omega)]
    generalize sumN (fun k => if sh b (s.1 78) k = 64 then 1 else 0) k = a at r ih
    simp (disch := omega) only [ick_ok, iov_ok, iol_ok, idv_ok, ich_ok, icp_ok, i_o2_some, i_o1_some]
    rw [e1]
    rw [sh_at] at ih
    by_cases h2 : s.1 78 (b + k) = 64
    · rw [if_pos h2] at ih ⊢
      exact ih
    · rw [if_neg h2] at ih ⊢
      exact ih
def inH (p : Int → Int) (n : Nat) : Int := sumN (fun k => if p k = 64 then 1 else 0) n
theorem inH_congr {p q : Int → Int} {n : Nat} (hp : ∀ k : Nat, k < n → p k = q k) : inH p n = inH q n :=
  sumN_congr n fun k hk => by rw [hp k hk]
theorem inH_tol {p : Int → Int} {n : Nat} : cntAt p 64 n = inH p n :=
  sumN_congr n fun k _ => by
    unfold tol
    by_cases h : p k < 128
    · rw [if_pos h]
    · rw [if_neg h, if_neg (by decide), if_neg (by omega)]
theorem m_inHand (hN : 5000 ≤ N) (hw : mOK s) {b : Int} (hb0 : 0 ≤ b) (hb : b ≤ 690) : f267 N b s = some (inH (sh b (s.1 78)) (s.1 71 1).toNat, s) := by
  have := m_inHand_lp (N := N) (s := s) hw.2.2.2 hb0 hb (s.1 71 1).toNat 0 N (by have := hw.2.2; omega) (by have := hw.2.2; omega)
  rw [Nat.zero_add] at this
  exact this
theorem c_isLost {t : Int} (h0 : 0 ≤ t) (h1 : t < 8) : f67 N t s = some (if s.1 7 t = 64 then 0 else if s.1 7 t = 65 then 0 else 1, s) := by
  unfold f67
  simp (disch := omega) only [ick_ok, iov_ok, iol_ok, idv_ok, ich_ok, icp_ok, i_o2_some, i_o1_some, ib1_ok]
  split
  · rfl
  · split <;> rfl
theorem c_manyLost_lp (hn : s.1 15 3 ≤ 8) : ∀ (m k fuel : Nat), (k : Int) + m = s.1 15 3 → m < fuel →
    f68_at4 N fuel (sumN (fun k => if s.1 7 k = 64 then 0 else if s.1 7 k = 65 then 0 else 1) k) k s = some (sumN (fun k => if s.1 7 k = 64 then 0 else if s.1 7 k = 65 then 0 else 1) (k + m), s) := by
  intro m
  induction m with
  | zero =>
    intro k fuel h hf
    obtain ⟨fuel, rfl⟩ : ∃ g, fuel = g + 1 := ⟨fuel - 1, by omega⟩
    unfold f68_at4
    rw [if_pos (by omega)]
    rfl
  | succ m ih =>
    intro k fuel h hf
    obtain ⟨fuel, rfl⟩ : ∃ g, fuel = g + 1 := ⟨fuel - 1, by omega⟩
    have r := sum01 (f := fun k => if s.1 7 k = 64 then 0 else if s.1 7 k = 65 then 0 else 1) (fun j => by split; exact Or.inl rfl; split; exact Or.inl rfl; exact Or.inr rfl) k (by omega)
    have ih := ih (k + 1) fuel (by omega) (by omega)
    rw [show k + (m + 1) = k + 1 + m by omega]
    have e1 : ((k : Int) + 1) = ((k + 1 : Nat) : Int) := by omega
    have e2 : sumN (fun k => if s.1 7 k = 64 then 0 else if s.1 7 k = 65 then 0 else 1) (k + 1) = sumN (fun k => if s.1 7 k = 64 then 0 else if s.1 7 k = 65 then 0 else 1) k + (if s.1 7 k = 64 then 0 else if s.1 7 k = 65 then 0 else 1) := rfl
    rw [e2] at ih
    unfold f68_at4 f68_at29
    rw [if_neg (by omega), c_isLost (by omega) (by omega), i_o2_some]
    generalize sumN (fun k => if s.1 7 k = 64 then 0 else if s.1 7 k = 65 then 0 else 1) k = a at r ih
    simp (disch := omega) only [ick_ok, iov_ok, iol_ok, idv_ok, ich_ok, icp_ok, i_o2_some, i_o1_some]
    rw [e1]
    by_cases h2 : s.1 7 k = 64
    · simp only [if_pos h2] at ih ⊢
      exact ih
    · simp only [if_neg h2] at ih ⊢
      by_cases h3 : s.1 7 k = 65
      · simp only [if_pos h3] at ih ⊢
        exact ih
      · simp only [if_neg h3] at ih ⊢
        exact ih
theorem c_manyLost (hN : 5000 ≤ N) (hw : cOK s) : f68 N s = some (cntL (s.1 7) (s.1 15 3).toNat, s) := by
  have := c_manyLost_lp (N := N) (s := s) hw.2.2.1.2 (s.1 15 3).toNat 0 N (by have := hw.2.2.1; omega) (by have := hw.2.2.1; omega)
  rw [Nat.zero_add] at this
  exact this
theorem c_worthLost_lp (hn : s.1 15 3 ≤ 8) (hw : cWo s) : ∀ (m k fuel : Nat), (k : Int) + m = s.1 15 3 → m < fuel →
    f69_at4 N fuel (sumN (fun k => if s.1 7 k = 64 then 0 else if s.1 7 k = 65 then 0 else s.1 20 k) k) k s = some (sumN (fun k => if s.1 7 k = 64 then 0 else if s.1 7 k = 65 then 0 else s.1 20 k) (k + m), s) := by
  intro m
  induction m with
  | zero =>
    intro k fuel h hf
    obtain ⟨fuel, rfl⟩ : ∃ g, fuel = g + 1 := ⟨fuel - 1, by omega⟩
    unfold f69_at4
    rw [if_pos (by omega)]
    rfl
  | succ m ih =>
    intro k fuel h hf
    obtain ⟨fuel, rfl⟩ : ∃ g, fuel = g + 1 := ⟨fuel - 1, by omega⟩
    have r := sumN_rg (f := fun k => if s.1 7 k = 64 then 0 else if s.1 7 k = 65 then 0 else s.1 20 k) (n := 8) (fun j hj => by
      have := hw j (by omega) (by omega)
      split
      · omega
      · split <;> omega) k (by omega)
    have rk := hw k (by omega) (by omega)
    have ih := ih (k + 1) fuel (by omega) (by omega)
    rw [show k + (m + 1) = k + 1 + m by omega]
    have e1 : ((k : Int) + 1) = ((k + 1 : Nat) : Int) := by omega
    have e2 : sumN (fun k => if s.1 7 k = 64 then 0 else if s.1 7 k = 65 then 0 else s.1 20 k) (k + 1) = sumN (fun k => if s.1 7 k = 64 then 0 else if s.1 7 k = 65 then 0 else s.1 20 k) k + (if s.1 7 k = 64 then 0 else if s.1 7 k = 65 then 0 else s.1 20 k) := rfl
    rw [e2] at ih
    unfold f69_at4 f69_at37
    rw [if_neg (by omega), c_isLost (by omega) (by omega), i_o2_some]
    generalize sumN (fun k => if s.1 7 k = 64 then 0 else if s.1 7 k = 65 then 0 else s.1 20 k) k = a at r ih
    simp (disch := omega) only [ick_ok, iov_ok, iol_ok, idv_ok, ich_ok, icp_ok, i_o2_some, i_o1_some]
    rw [e1]
    by_cases h2 : s.1 7 k = 64
    · simp only [if_pos h2] at ih ⊢
      exact ih
    · simp only [if_neg h2] at ih ⊢
      by_cases h3 : s.1 7 k = 65
      · simp only [if_pos h3] at ih ⊢
        exact ih
      · simp only [if_neg h3] at ih ⊢
        exact ih
theorem c_worthLost (hN : 5000 ≤ N) (hw : cOK s) (hw2 : cWo s) : f69 N s = some (wL (s.1 7) (s.1 20) (s.1 15 3).toNat, s) := by
  have := c_worthLost_lp (N := N) (s := s) hw.2.2.1.2 hw2 (s.1 15 3).toNat 0 N (by have := hw.2.2.1; omega) (by have := hw.2.2.1; omega)
  rw [Nat.zero_add] at this
  exact this
end SUMS
