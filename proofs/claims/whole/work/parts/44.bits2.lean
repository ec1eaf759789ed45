/-! Things as bits, and how many bits there are. -/
def bN (P : Nat → Bool) : Nat → Int
  | 0 => 0
  | k + 1 => if P k = true then i_or (bN P k) (i_shl 1 k) else bN P k
def p1 (x : Int) : Int := x - i_and (i_ushr x 1) 1431655765
def p2 (x : Int) : Int := i_and x 858993459 + i_and (i_ushr x 2) 858993459
def p3 (x : Int) : Int := x + i_ushr x 4
def p4 (x : Int) : Int := x + i_ushr x 8
def p5 (x : Int) : Int := x + i_ushr x 16
def pcf (x : Int) : Int := i_and (p5 (p4 (i_and (p3 (p2 (p1 x))) 252645135))) 63
def inr (x : Int) : Bool := decide (-2147483648 ≤ x) && decide (x ≤ 2147483647)
section BITS2
theorem pc_ok : ∀ x : Fin 256, (inr (p1 (x.val : Int)) && inr (p2 (p1 (x.val : Int))) && inr (p3 (p2 (p1 (x.val : Int)))) && inr (p4 (i_and (p3 (p2 (p1 (x.val : Int)))) 252645135)) && inr (p5 (p4 (i_and (p3 (p2 (p1 (x.val : Int)))) 252645135)))) = true := by decide +kernel
theorem pc_or : ∀ k : Fin 8, ∀ x : Fin 256, x.val < 2 ^ k.val → i_or (x.val : Int) (i_shl 1 (k.val : Int)) = (x.val : Int) + 2 ^ k.val ∧ pcf ((x.val : Int) + 2 ^ k.val) = pcf (x.val : Int) + 1 := by decide +kernel
variable {N : Nat} {s : gI}
theorem inr_ov {α : Type} {x : Int} {k : Option α} (h : inr x = true) : iov x k = k := by
  unfold inr at h
  rw [Bool.and_eq_true, decide_eq_true_eq, decide_eq_true_eq] at h
  exact iov_ok h.1 h.2
theorem bitCount {x : Int} (h0 : 0 ≤ x) (h1 : x < 256) : f296 N x s = some (pcf x, s) := by
  obtain ⟨n, rfl⟩ := Int.eq_ofNat_of_zero_le h0
  have h := pc_ok ⟨n, by omega⟩
  simp only [Bool.and_eq_true] at h
  obtain ⟨⟨⟨⟨a1, a2⟩, a3⟩, a4⟩, a5⟩ := h
  unfold f296
  dsimp only
  rw [show (n : Int) - i_and (i_ushr n 1) 1431655765 = p1 n from rfl, inr_ov a1]
  rw [show i_and (p1 n) 858993459 + i_and (i_ushr (p1 n) 2) 858993459 = p2 (p1 n) from rfl, inr_ov a2]
  rw [show p2 (p1 n) + i_ushr (p2 (p1 n)) 4 = p3 (p2 (p1 n)) from rfl, inr_ov a3]
  rw [show i_and (p3 (p2 (p1 n))) 252645135 + i_ushr (i_and (p3 (p2 (p1 n))) 252645135) 8 = p4 (i_and (p3 (p2 (p1 n))) 252645135) from rfl, inr_ov a4]
  rw [show p4 (i_and (p3 (p2 (p1 n))) 252645135) + i_ushr (p4 (i_and (p3 (p2 (p1 n))) 252645135)) 16 = p5 (p4 (i_and (p3 (p2 (p1 n))) 252645135)) from rfl, inr_ov a5]
  rfl
theorem bN_rg (P : Nat → Bool) : ∀ k : Nat, k ≤ 8 → 0 ≤ bN P k ∧ bN P k < 2 ^ k ∧ pcf (bN P k) = sumN (fun j => if P j = true then 1 else 0) k
  | 0, _ => ⟨by simp [bN], by simp [bN], by unfold bN sumN; decide +kernel⟩
  | k + 1, hk => by
    obtain ⟨h0, h1, h2⟩ := bN_rg P k (by omega)
    have hp : (2 : Int) ^ k ≤ 2 ^ 7 := by
      have : ∀ j : Fin 8, (2 : Int) ^ j.val ≤ 2 ^ 7 := by decide
      exact this ⟨k, by omega⟩
    have hp2 : (2 : Int) ^ (k + 1) = 2 * 2 ^ k := by rw [Int.pow_succ]; omega
    unfold bN sumN
    by_cases h : P k = true
    · rw [if_pos h, if_pos h]
      obtain ⟨x, hx⟩ := Int.eq_ofNat_of_zero_le h0
      rw [hx] at h0 h1 h2 ⊢
      have hx2 : x < 2 ^ k := by
        have : ((2 ^ k : Nat) : Int) = 2 ^ k := by simp
        omega
      have := pc_or ⟨k, by omega⟩ ⟨x, by omega⟩ hx2
      dsimp only at this
      rw [this.1, this.2, h2]
      exact ⟨by omega, by omega, rfl⟩
    · rw [if_neg h, if_neg h]
      exact ⟨h0, by omega, by rw [h2]; omega⟩
theorem bN_256 (P : Nat → Bool) {k : Nat} (hk : k ≤ 8) : 0 ≤ bN P k ∧ bN P k < 256 := by
  obtain ⟨h0, h1, -⟩ := bN_rg P k hk
  have hp : (2 : Int) ^ k ≤ 2 ^ 8 := by
    have : ∀ j : Fin 9, (2 : Int) ^ j.val ≤ 2 ^ 8 := by decide
    exact this ⟨k, by omega⟩
  omega
theorem bN_congr {P P2 : Nat → Bool} : ∀ n, (∀ k, k < n → P k = P2 k) → bN P n = bN P2 n
  | 0, _ => rfl
  | n + 1, h => by
    unfold bN
    rw [bN_congr n (fun k hk => h k (by omega)), h n (by omega)]
theorem c_told {z : Int} : f171 N z s = some (tol z, s) := by
  unfold f171 tol
  split <;> rfl
theorem c_bitsAt_lp (hn : s.1 15 3 ≤ 8) {w : Int} : ∀ (m k fuel : Nat), (k : Int) + m = s.1 15 3 → m < fuel →
    f71_at4 N fuel w (bN (fun k => decide (tol (s.1 7 k) = w)) k) k s = some (bN (fun k => decide (tol (s.1 7 k) = w)) (k + m), s) := by
  intro m
  induction m with
  | zero =>
    intro k fuel h hf
    obtain ⟨fuel, rfl⟩ : ∃ g, fuel = g + 1 := ⟨fuel - 1, by omega⟩
    unfold f71_at4
    rw [if_pos (by omega)]
    rfl
  | succ m ih =>
    intro k fuel h hf
    obtain ⟨fuel, rfl⟩ : ∃ g, fuel = g + 1 := ⟨fuel - 1, by omega⟩
    have ih := ih (k + 1) fuel (by omega) (by omega)
    rw [show k + (m + 1) = k + 1 + m by omega]
    have e1 : ((k : Int) + 1) = ((k + 1 : Nat) : Int) := by omega
    have e2 : bN (fun k => decide (tol (s.1 7 k) = w)) (k + 1) = if decide (tol (s.1 7 k) = w) = true then i_or (bN (fun k => decide (tol (s.1 7 k) = w)) k) (i_shl 1 k) else bN (fun k => decide (tol (s.1 7 k) = w)) k := rfl
    rw [e2] at ih
    unfold f71_at4
    rw [if_neg (by omega)]
    simp (disch := omega) only [ick_ok, iov_ok, iol_ok, idv_ok, ich_ok, icp_ok, i_o2_some, i_o1_some, c_told]
    rw [e1]
    by_cases h2 : tol (s.1 7 k) = w
    · rw [if_pos (decide_eq_true h2)] at ih
      rw [if_pos h2]
      exact ih
    · rw [if_neg (by rw [decide_eq_false h2]; decide)] at ih
      rw [if_neg h2]
      exact ih
theorem c_bitsAt (hN : 5000 ≤ N) (hw : cOK s) {w : Int} : f71 N w s = some (bN (fun k => decide (tol (s.1 7 k) = w)) (s.1 15 3).toNat, s) := by
  have := c_bitsAt_lp (N := N) (s := s) (w := w) hw.2.2.1.2 (s.1 15 3).toNat 0 N (by have := hw.2.2.1; omega) (by have := hw.2.2.1; omega)
  rw [Nat.zero_add] at this
  exact this
theorem c_manyAt (hN : 5000 ≤ N) (hw : cOK s) {w : Int} : f72 N w s = some (cntAt (s.1 7) w (s.1 15 3).toNat, s) := by
  have hn : (s.1 15 3).toNat ≤ 8 := by have := hw.2.2.1; omega
  have r := bN_256 (fun k => decide (tol (s.1 7 k) = w)) hn
  unfold f72
  rw [c_bitsAt hN hw, i_o2_some, bitCount r.1 r.2, i_o2_some, (bN_rg _ _ hn).2.2]
  unfold cntAt
  simp only [decide_eq_true_eq]
end BITS2
