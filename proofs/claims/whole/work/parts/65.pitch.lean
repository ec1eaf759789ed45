/-! Promise 25: pitch answered alike. -/
section PITCH
variable {N : Nat} {s u : gI} {k a x : Int}
/-- the bare roof -/
def Qb (s : gI) : Cf := (s.1 12 0, s.1 12 1, s.1 13, 0, fun _ => 0)
def shZ (s : gI) (x i : Int) : Int := to1 (Qb s) (fun _ => 64) 0 (x + s.1 22 i) (s.1 12 1 - s.1 23 i)
def shY (s : gI) (x i : Int) : Int := if shZ s x i < 0 ∨ 64 ≤ shZ s x i then shZ s x i else rollT (Qb s) (fun _ => 64) 0 (shZ s x i)
def shV (s : gI) (x i : Int) : Int := if (s.1 15 12 = -1 ∨ s.1 23 i ≤ s.1 15 12) ∧ ¬ (shY s x i < 0 ∨ shY s x i = 64) then s.1 24 i else 0
def pS (s : gI) (x : Int) : Nat → Int → Int
  | 0, _ => 0
  | r + 1, i => shV s x i + pS s x r (i + 1)
theorem Qb_o : exO (Qb s) (fun _ => 64) 0 = fun _ => (-1 : Int) := rfl
theorem shZ_c : shZ s x k = cTo (s.1 12 0) (s.1 12 1) (s.1 13) (fun _ => -1) (x + s.1 22 k) (s.1 12 1 - s.1 23 k) := rfl
theorem shY_rg (hw : cOK s) : shY s x k = shZ s x k ∨ (0 ≤ shY s x k ∧ 0 ≤ shZ s x k ∧ shZ s x k < 64) := by
  unfold shY
  by_cases g : shZ s x k < 0 ∨ 64 ≤ shZ s x k
  · rw [if_pos g]; exact Or.inl rfl
  · rw [if_neg g]
    have h : okq (Qb s) (fun _ => 64) 0 (shZ s x k) := to1_ok (Q := Qb s) hw.1.2 hw.2.1.2 (by show 0 ≤ shZ s x k; omega)
    have := okq_rg (rollT_ok (Q := Qb s) hw.1.2 hw.2.1.2 h)
    exact Or.inr (by omega)
theorem shZ_on (hw : cOK s) (h0 : 0 ≤ shZ s x k) (h1 : shZ s x k < 64) : onR (cQ s) (shZ s x k) ∧ s.1 13 (shZ s x k) ≠ 7 ∧ s.1 13 (shZ s x k) ≠ 8 := by
  have h : okq (Qb s) (fun _ => 64) 0 (shZ s x k) := to1_ok (Q := Qb s) hw.1.2 hw.2.1.2 h0
  have := okq_on h h0 h1
  exact ⟨this.1, this.2.1, this.2.2⟩
theorem c_shot (hN : 5000 ≤ N) (hw : cOK s) (hb : ∀ c, 0 ≤ c → c < 64 → s.1 14 c = -1) {X Y : Int} (hX : -100 ≤ X ∧ X ≤ 100) (hY : -100 ≤ Y ∧ Y ≤ 100) : f83 N 14 X Y s = some (if cTo (s.1 12 0) (s.1 12 1) (s.1 13) (fun _ => -1) X Y < 0 then 64 else cTo (s.1 12 0) (s.1 12 1) (s.1 13) (fun _ => -1) X Y, s) := by
  obtain ⟨⟨hW0, hW⟩, ⟨hD0, hD⟩, -, -⟩ := id hw
  unfold f83 cTo
  by_cases h1 : X < 0
  · simp only [if_pos h1]; rw [if_neg (by decide)]
  simp only [if_neg h1]
  by_cases h2 : s.1 12 0 ≤ X
  · simp only [if_pos h2]; rw [if_neg (by decide)]
  simp only [if_neg h2]
  by_cases h3 : Y < s.1 12 1
  rotate_left
  · simp only [if_neg h3]; rw [if_neg (by decide)]
  simp only [if_pos h3]
  by_cases h4 : 0 ≤ Y
  rotate_left
  · simp only [if_neg h4]; rw [if_neg (by decide)]
  simp only [if_pos h4]
  rw [iov_ok (by omega) (by omega), iov_ok (by omega) (by omega), ick_ok (by omega) (by omega), show Y * 8 + X = 8 * Y + X by omega]
  by_cases h5 : s.1 13 (8 * Y + X) = 8
  · simp only [if_pos h5]; rw [if_pos (by decide)]
  simp only [if_neg h5, if_pos (show (-1 : Int) < 0 by decide)]
  rw [ick_ok (by omega) (by omega)]
  by_cases h6 : s.1 13 (8 * Y + X) = 7
  · simp only [if_pos h6]
    rw [ick_ok (by omega) (by omega), hb _ (by omega) (by omega), if_neg (by decide), iov_ok (by omega) (by omega), if_neg (by omega)]
  · simp only [if_neg h6]
    rw [if_neg (by omega)]
theorem c_bareRoll (hN : 5000 ≤ N) (hw : cOK s) (hb : ∀ c, 0 ≤ c → c < 64 → s.1 14 c = -1) {c : Int} (on : onR (cQ s) c) (h7 : s.1 13 c ≠ 7) (h8 : s.1 13 c ≠ 8) : f84 N 14 c 64 s = some (rollT (Qb s) (fun _ => 64) 0 c, s) := by
  rw [c_rest hN hw on (by decide) (by decide)]
  have := roll_sim (tl := s.1 13) (o := oC (s.1 13) (s.1 14)) (o2 := fun _ => -1) (W := s.1 12 0) (D := s.1 12 1) hw.1.2 hw.2.1.2 64 (fun j => decide (j = c)) c (fun x y x0 x1 y0 y1 _ => by
    have w1 := hw.1.2
    have w2 := hw.2.1.2
    have e := hb (8 * y + x) (by omega) (by omega)
    constructor
    · unfold oC
      rw [if_pos (by omega), e]
      split <;> exact Iff.rfl
    · intro _
      unfold oC
      rw [if_neg (by omega), show 128 + (8 * y + x) - 128 = 8 * y + x by omega, e]) (fun d hd => by
    have := of_decide_eq_true hd
    subst this
    exact ⟨h7, h8⟩)
  have e64 : (64 : Int).toNat = 64 := rfl
  rw [e64, this]
  rfl
theorem c_pS_lp (hN : 5000 ≤ N) (hI : INV k s) (hx : 0 ≤ x ∧ x < 8) : ∀ (r fuel : Nat) (z i : Int), r < fuel → 0 ≤ i → i + r = s.1 15 8 → 0 ≤ z → z ≤ 99 * i →
    f73_at4 N fuel x z i s = some (z + pS s x r i, s) := by
  have hw := hI.1.1.1
  have hb := hI.2.2.2.1
  obtain ⟨-, -, -, s8, sh, -, s12, -⟩ := hI.2.2.1
  obtain ⟨⟨hW0, hW⟩, ⟨hD0, hD⟩, -, -⟩ := id hw
  intro r
  induction r with
  | zero =>
    intro fuel z i hf i0 e z0 z1
    obtain ⟨fuel, rfl⟩ : ∃ g, fuel = g + 1 := ⟨fuel - 1, by omega⟩
    unfold f73_at4 pS
    rw [if_pos (by omega), Int.add_zero]
  | succ r ih =>
    intro fuel z i hf i0 e z0 z1
    obtain ⟨fuel, rfl⟩ : ∃ g, fuel = g + 1 := ⟨fuel - 1, by omega⟩
    obtain ⟨q1, q2, q3, q4, q5, q6, q7⟩ := sh i i0 (by omega)
    have r22 : -8 ≤ s.1 22 i ∧ s.1 22 i ≤ 8 := by rw [q3]; split <;> omega
    have go : ∀ w : Int, w = shV s x i → 0 ≤ w → w ≤ 99 → f73_at4 N fuel x (z + w) (i + 1) s = some (z + pS s x (r + 1) i, s) := fun w hv w0 w1 => by
      unfold pS
      rw [← hv, ← Int.add_assoc]
      exact ih fuel (z + w) (i + 1) (by omega) (by omega) (by omega) (by omega) (by omega)
    have a119 : ∀ y : Int, (y = 64 ↔ (shY s x i < 0 ∨ shY s x i = 64)) → (s.1 15 12 = -1 ∨ s.1 23 i ≤ s.1 15 12) → f73_at119 N (f73_at4 N fuel) x z i y s = some (z + pS s x (r + 1) i, s) := fun y hy ht => by
      unfold f73_at119 f73_at140
      by_cases g : y = 64
      · rw [if_pos g, iov_ok (by omega) (by omega), iov_ok (by omega) (by omega)]
        exact go 0 (by unfold shV; rw [if_neg (fun hh => hh.2 (hy.1 g))]) (by decide) (by decide)
      · rw [if_neg g, ick_ok (by omega) (by omega), iov_ok (by omega) (by omega), iov_ok (by omega) (by omega)]
        exact go _ (by unfold shV; rw [if_pos ⟨ht, fun hh => g (hy.2 hh)⟩]) (by omega) (by omega)
    have a48 : (s.1 15 12 = -1 ∨ s.1 23 i ≤ s.1 15 12) → f73_at48 N (f73_at4 N fuel) x z i s = some (z + pS s x (r + 1) i, s) := fun ht => by
      unfold f73_at48
      rw [ick_ok (by omega) (by omega), iov_ok (by omega) (by omega), ick_ok (by omega) (by omega), iov_ok (by omega) (by omega), c_shot hN hw hb (by omega) (by omega), i_o2_some, ← shZ_c]
      have ry := shY_rg (x := x) (k := i) hw
      by_cases g : shZ s x i < 0
      · rw [if_pos g, if_pos (by decide)]
        exact a119 64 ⟨fun _ => Or.inl (by omega), fun _ => rfl⟩ ht
      rw [if_neg g]
      by_cases g2 : 64 ≤ shZ s x i
      · rw [if_pos g2]
        have e : shY s x i = shZ s x i := if_pos (Or.inr g2)
        exact a119 _ ⟨fun h => Or.inr (by omega), fun h => by omega⟩ ht
      · have on := shZ_on hw (x := x) (k := i) (by omega) (by omega)
        rw [if_neg g2, c_bareRoll hN hw hb on.1 on.2.1 on.2.2, i_o2_some]
        have e : shY s x i = rollT (Qb s) (fun _ => 64) 0 (shZ s x i) := if_neg (by omega)
        rw [← e]
        exact a119 _ ⟨fun h => Or.inr h, fun h => by omega⟩ ht
    unfold f73_at4
    rw [if_neg (by omega)]
    by_cases g : s.1 15 12 = -1
    · rw [if_pos g]; exact a48 (Or.inl g)
    rw [if_neg g, ick_ok (by omega) (by omega)]
    by_cases g2 : s.1 23 i ≤ s.1 15 12
    · rw [if_pos g2]; exact a48 (Or.inr g2)
    · rw [if_neg g2, iov_ok (by omega) (by omega)]
      have := go 0 (by unfold shV; rw [if_neg (fun hh => by rcases hh.1 with q | q; exact g q; exact g2 q)]) (by decide) (by decide)
      rwa [Int.add_zero] at this
end PITCH
