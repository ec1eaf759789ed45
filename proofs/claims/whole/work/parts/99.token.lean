/-! The TAPE cut: what the next word, NUMBER or sign is. -/
section TOKEN
variable {F G : Int → Int} {n e st lo hi b z c : Int}
def skp (F : Int → Int) : Nat → Int → Int
  | 0, e => e
  | r + 1, e => if F e = 10 ∨ F e = 32 then skp F r (e + 1) else e
def tS (F : Int → Int) (n e : Int) : Int := skp F (n - e).toNat e
theorem tS_in (h : e < n) (h2 : F e = 10 ∨ F e = 32) : tS F n e = tS F n (e + 1) := by
  unfold tS
  rw [show (n - e).toNat = (n - (e + 1)).toNat + 1 by omega]
  exact if_pos h2
theorem tS_no (h : e < n → ¬ (F e = 10 ∨ F e = 32)) : tS F n e = e := by
  unfold tS
  by_cases g : e < n
  · rw [show (n - e).toNat = (n - (e + 1)).toNat + 1 by omega]
    exact if_neg (h g)
  · rw [show (n - e).toNat = 0 by omega]
    rfl
theorem skp_rg (r : Nat) : ∀ e : Int, e ≤ skp F r e ∧ skp F r e ≤ e + r := by
  induction r with
  | zero => intro e; show e ≤ e ∧ e ≤ e + 0; omega
  | succ r ih =>
    intro e
    unfold skp
    have := ih (e + 1)
    split <;> omega
theorem tS_rg (h : e ≤ n) : e ≤ tS F n e ∧ tS F n e ≤ n := by
  have := skp_rg (F := F) (n - e).toNat e
  unfold tS
  omega
theorem skp_ns (r : Nat) : ∀ e : Int, skp F r e < e + r → ¬ (F (skp F r e) = 10 ∨ F (skp F r e) = 32) := by
  induction r with
  | zero => intro e h; have h : e < e + 0 := h; omega
  | succ r ih =>
    intro e h
    unfold skp at h ⊢
    split
    · rename_i q
      rw [if_pos q] at h
      exact ih (e + 1) (by omega)
    · rename_i q
      exact q
theorem tS_ns (h : tS F n e < n) : ¬ (F (tS F n e) = 10 ∨ F (tS F n e) = 32) := by
  have := skp_rg (F := F) (n - e).toNat e
  unfold tS at h ⊢
  exact skp_ns _ _ (by omega)
def rnE (F : Int → Int) (lo hi : Int) : Nat → Int → Int
  | 0, e => e
  | r + 1, e => if lo ≤ F e ∧ F e ≤ hi then rnE F lo hi r (e + 1) else e
def tR (F : Int → Int) (lo hi n e : Int) : Int := rnE F lo hi (n - e).toNat e
theorem tR_in (h : e < n) (h2 : lo ≤ F e ∧ F e ≤ hi) : tR F lo hi n e = tR F lo hi n (e + 1) := by
  unfold tR
  rw [show (n - e).toNat = (n - (e + 1)).toNat + 1 by omega]
  exact if_pos h2
theorem tR_no (h : e < n → ¬ (lo ≤ F e ∧ F e ≤ hi)) : tR F lo hi n e = e := by
  unfold tR
  by_cases g : e < n
  · rw [show (n - e).toNat = (n - (e + 1)).toNat + 1 by omega]
    exact if_neg (h g)
  · rw [show (n - e).toNat = 0 by omega]
    rfl
theorem rnE_rg (r : Nat) : ∀ e : Int, e ≤ rnE F lo hi r e ∧ rnE F lo hi r e ≤ e + r := by
  induction r with
  | zero => intro e; show e ≤ e ∧ e ≤ e + 0; omega
  | succ r ih =>
    intro e
    unfold rnE
    have := ih (e + 1)
    split <;> omega
theorem tR_rg (h : e ≤ n) : e ≤ tR F lo hi n e ∧ tR F lo hi n e ≤ n := by
  have := rnE_rg (F := F) (lo := lo) (hi := hi) (n - e).toNat e
  unfold tR
  omega
theorem tR_gt (h : e < n) (h2 : lo ≤ F e ∧ F e ≤ hi) : e < tR F lo hi n e := by
  rw [tR_in h h2]
  have := tR_rg (F := F) (lo := lo) (hi := hi) (n := n) (e := e + 1) (by omega)
  omega
theorem rnE_all (r : Nat) : ∀ e j : Int, e ≤ j → j < rnE F lo hi r e → lo ≤ F j ∧ F j ≤ hi := by
  induction r with
  | zero => intro e j h1 h2; have h2 : j < e := h2; omega
  | succ r ih =>
    intro e j h1 h2
    unfold rnE at h2
    split at h2
    · rename_i q
      by_cases g : j = e
      · rw [g]; exact q
      · exact ih (e + 1) j (by omega) h2
    · omega
theorem tR_all {j : Int} (h1 : e ≤ j) (h2 : j < tR F lo hi n e) : lo ≤ F j ∧ F j ≤ hi := rnE_all _ e j h1 h2
abbrev isSg (c : Int) : Prop := c = 40 ∨ c = 41 ∨ c = 59 ∨ c = 61 ∨ c = 60 ∨ c = 43 ∨ c = 45 ∨ c = 42
/-- 0 the end, 1 none, 2 a word, 3 a NUMBER, 4 a sign -/
def tK (F : Int → Int) (n st : Int) : Int := if st < n then (if 97 ≤ F st ∧ F st ≤ 122 then (if tR F 97 122 n st - st ≤ 8 then 2 else 1) else if 48 ≤ F st ∧ F st ≤ 57 then (if tR F 48 57 n st - st ≤ 4 then 3 else 1) else if isSg (F st) then 4 else 1) else 0
def tE (F : Int → Int) (n st : Int) : Int := if st < n then (if 97 ≤ F st ∧ F st ≤ 122 then tR F 97 122 n st else if 48 ≤ F st ∧ F st ≤ 57 then tR F 48 57 n st else st + 1) else n
theorem tE_rg (h : st < n) : st < tE F n st ∧ tE F n st ≤ n := by
  unfold tE
  rw [if_pos h]
  split
  · rename_i q
    exact ⟨tR_gt h q, (tR_rg (by omega)).2⟩
  · split
    · rename_i q
      exact ⟨tR_gt h q, (tR_rg (by omega)).2⟩
    · omega
theorem tE_le (h : st ≤ n) : st ≤ tE F n st ∧ tE F n st ≤ n := by
  by_cases g : st < n
  · have := tE_rg (F := F) g; omega
  · unfold tE; rw [if_neg g]; omega
theorem tK_0 : tK F n st = 0 ↔ n ≤ st := by
  unfold tK
  by_cases g : st < n
  · rw [if_pos g]
    refine ⟨fun h => ?_, fun h => by omega⟩
    exfalso
    split at h
    · split at h <;> omega
    · split at h
      · split at h <;> omega
      · split at h <;> omega
  · rw [if_neg g]
    exact ⟨fun _ => by omega, fun _ => rfl⟩
/-- a word -/
theorem tK_2 (h : tK F n st = 2) : st < n ∧ (∀ j, st ≤ j → j < tE F n st → 97 ≤ F j ∧ F j ≤ 122) ∧ st < tE F n st ∧ tE F n st - st ≤ 8 := by
  have g : st < n := by
    by_cases g : st < n
    · exact g
    · rw [tK_0.mpr (by omega)] at h; omega
  have e1 := tE_rg (F := F) g
  unfold tK at h
  rw [if_pos g] at h
  split at h
  · rename_i q
    have e2 : tE F n st = tR F 97 122 n st := by unfold tE; rw [if_pos g, if_pos q]
    refine ⟨g, fun j h1 h2 => tR_all h1 (by rw [← e2]; exact h2), e1.1, ?_⟩
    rw [e2]
    split at h
    · assumption
    · omega
  · split at h
    · split at h <;> omega
    · split at h <;> omega
theorem tK_3 (h : tK F n st = 3) : st < n ∧ (∀ j, st ≤ j → j < tE F n st → 48 ≤ F j ∧ F j ≤ 57) ∧ st < tE F n st ∧ tE F n st - st ≤ 4 := by
  have g : st < n := by
    by_cases g : st < n
    · exact g
    · rw [tK_0.mpr (by omega)] at h; omega
  have e1 := tE_rg (F := F) g
  unfold tK at h
  rw [if_pos g] at h
  split at h
  · split at h <;> omega
  · rename_i p
    split at h
    · rename_i q
      have e2 : tE F n st = tR F 48 57 n st := by unfold tE; rw [if_pos g, if_neg p, if_pos q]
      refine ⟨g, fun j h1 h2 => tR_all h1 (by rw [← e2]; exact h2), e1.1, ?_⟩
      rw [e2]
      split at h
      · assumption
      · omega
    · split at h <;> omega
theorem tK_4 (h : tK F n st = 4) : st < n ∧ isSg (F st) := by
  have g : st < n := by
    by_cases g : st < n
    · exact g
    · rw [tK_0.mpr (by omega)] at h; omega
  unfold tK at h
  rw [if_pos g] at h
  split at h
  · split at h <;> omega
  · split at h
    · split at h <;> omega
    · split at h
      · exact ⟨g, by assumption⟩
      · omega
/-- what letters or digits tell together -/
def wvl (F : Int → Int) (b z st : Int) : Nat → Int
  | 0 => 0
  | r + 1 => b * wvl F b z st r + (F (st + r) - z)
def tV (F : Int → Int) (n st : Int) : Int := if tK F n st = 2 then wvl F 37 96 st (tE F n st - st).toNat else if tK F n st = 3 then wvl F 10 48 st (tE F n st - st).toNat else F st
theorem wvl_pos (r : Nat) (h : ∀ j : Int, st ≤ j → j < st + r → 97 ≤ F j ∧ F j ≤ 122) : r ≤ wvl F 37 96 st r := by
  induction r with
  | zero => exact Int.le_refl _
  | succ r ih =>
    have i1 := ih (fun j h1 h2 => h j h1 (by omega))
    have i2 := h (st + r) (by omega) (by omega)
    show ((r + 1 : Nat) : Int) ≤ 37 * wvl F 37 96 st r + (F (st + r) - 96)
    omega
theorem wvl_rg : ∀ (r : Nat), r ≤ 8 → (∀ j : Int, st ≤ j → j < st + r → 97 ≤ F j ∧ F j ≤ 122) → 0 ≤ wvl F 37 96 st r ∧ wvl F 37 96 st r < (37 : Int) ^ r
  | 0, _, _ => by show (0 : Int) ≤ 0 ∧ (0 : Int) < 1; omega
  | r + 1, h8, h => by
    have i1 := wvl_rg r (by omega) (fun j h1 h2 => h j h1 (by omega))
    have i2 := h (st + r) (by omega) (by omega)
    show 0 ≤ 37 * wvl F 37 96 st r + (F (st + r) - 96) ∧ 37 * wvl F 37 96 st r + (F (st + r) - 96) < (37 : Int) ^ (r + 1)
    rw [Int.pow_succ]
    omega
theorem wd_rg : ∀ (r : Nat), (∀ j : Int, st ≤ j → j < st + r → 48 ≤ F j ∧ F j ≤ 57) → 0 ≤ wvl F 10 48 st r ∧ wvl F 10 48 st r < (10 : Int) ^ r
  | 0, _ => by show (0 : Int) ≤ 0 ∧ (0 : Int) < 1; omega
  | r + 1, h => by
    have i1 := wd_rg r (fun j h1 h2 => h j h1 (by omega))
    have i2 := h (st + r) (by omega) (by omega)
    show 0 ≤ 10 * wvl F 10 48 st r + (F (st + r) - 48) ∧ 10 * wvl F 10 48 st r + (F (st + r) - 48) < (10 : Int) ^ (r + 1)
    rw [Int.pow_succ]
    omega
/-- unlike words, unlike numbers -/
theorem wvl_inj : ∀ (r q : Nat) (x y : Int), (∀ j : Int, x ≤ j → j < x + r → 97 ≤ F j ∧ F j ≤ 122) → (∀ j : Int, y ≤ j → j < y + q → 97 ≤ G j ∧ G j ≤ 122) → wvl F 37 96 x r = wvl G 37 96 y q → r = q ∧ ∀ j : Nat, j < r → F (x + j) = G (y + j)
  | 0, 0, _, _, _, _, _ => ⟨rfl, fun j h => by omega⟩
  | 0, q + 1, x, y, _, h2, h => by
    have i2 := wvl_pos (F := G) (st := y) (q + 1) h2
    have : wvl F 37 96 x 0 = 0 := rfl
    omega
  | r + 1, 0, x, y, h1, _, h => by
    have i2 := wvl_pos (F := F) (st := x) (r + 1) h1
    have : wvl G 37 96 y 0 = 0 := rfl
    omega
  | r + 1, q + 1, x, y, h1, h2, h => by
    have e1 : wvl F 37 96 x (r + 1) = 37 * wvl F 37 96 x r + (F (x + r) - 96) := rfl
    have e2 : wvl G 37 96 y (q + 1) = 37 * wvl G 37 96 y q + (G (y + q) - 96) := rfl
    have c1 := h1 (x + r) (by omega) (by omega)
    have c2 := h2 (y + q) (by omega) (by omega)
    have e3 : wvl F 37 96 x r = wvl G 37 96 y q ∧ F (x + r) = G (y + q) := by omega
    obtain ⟨i1, i2⟩ := wvl_inj r q x y (fun j a b => h1 j a (by omega)) (fun j a b => h2 j a (by omega)) e3.1
    subst i1
    refine ⟨rfl, fun j hj => ?_⟩
    by_cases g : j = r
    · subst g; exact e3.2
    · exact i2 j (by omega)
theorem wvl_cg : ∀ (r : Nat) (x y : Int), (∀ j : Nat, j < r → F (x + j) = G (y + j)) → wvl F b z x r = wvl G b z y r
  | 0, _, _, _ => rfl
  | r + 1, x, y, h => by
    show b * wvl F b z x r + (F (x + r) - z) = b * wvl G b z y r + (G (y + r) - z)
    rw [wvl_cg r x y (fun j hj => h j (by omega)), h r (by omega)]
/-- where the words, NUMBERS and signs begin -/
def tP (F : Int → Int) (n : Int) : Nat → Int
  | 0 => tS F n 0
  | i + 1 => tS F n (tE F n (tP F n i))
theorem tP_rg (hn : 0 ≤ n) : ∀ i : Nat, 0 ≤ tP F n i ∧ tP F n i ≤ n
  | 0 => by have := tS_rg (F := F) (n := n) (e := 0) hn; exact this
  | i + 1 => by
    have h1 := tP_rg hn i
    have h2 := tE_le (F := F) h1.2
    have := tS_rg (F := F) (n := n) (e := tE F n (tP F n i)) h2.2
    show 0 ≤ tS F n (tE F n (tP F n i)) ∧ tS F n (tE F n (tP F n i)) ≤ n
    omega
/-- all before number i are there -/
def lv (F : Int → Int) (n : Int) (i : Nat) : Prop := ∀ j : Nat, j < i → tP F n j < n
theorem lv_0 : lv F n 0 := fun j h => by omega
theorem lv_s {i : Nat} (h : lv F n i) (h2 : tK F n (tP F n i) ≠ 0) : lv F n (i + 1) := fun j hj => by
  by_cases g : j = i
  · subst g
    have := mt (tK_0 (F := F) (n := n) (st := tP F n j)).mpr h2
    omega
  · exact h j (by omega)
theorem lv_le (hn : 0 ≤ n) {i : Nat} (h : lv F n i) : (i : Int) ≤ tP F n i := by
  induction i with
  | zero => exact (tP_rg hn 0).1
  | succ i ih =>
    have h1 := ih (fun j hj => h j (by omega))
    have h2 := tE_rg (F := F) (h i (by omega))
    have := tS_rg (F := F) (n := n) (e := tE F n (tP F n i)) h2.2
    show ((i + 1 : Nat) : Int) ≤ tS F n (tE F n (tP F n i))
    omega
theorem lv_mx (hn : 0 ≤ n) {i : Nat} (h : lv F n i) : (i : Int) ≤ n := by
  have := lv_le hn h
  have := (tP_rg (F := F) hn i).2
  omega
end TOKEN
