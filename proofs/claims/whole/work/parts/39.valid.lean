/-! Sound places: on the roof, in hand, over, in a pipe; one at most on each; who is where, cell by cell. -/
def co (z : Int) : Int := if z < 128 then (if 64 ≤ z then -1 else z) else z - 128
/-- the last of k things on a cell or in its pipe -/
def occ2 (p : Int → Int) (c : Int) : Nat → Int
  | 0 => -1
  | k + 1 => if co (p k) = c then k else occ2 p c k
def onR (Q : Cf) (c : Int) : Prop := 0 ≤ c ∧ c < 64 ∧ c % 8 < Q.1 ∧ c / 8 < Q.2.1
/-- a place that one of the things may come to -/
def okq (Q : Cf) (p : Int → Int) (t q : Int) : Prop :=
  q = 64 ∨ q = 65 ∨ (onR Q q ∧ Q.2.2.1 q ≠ 7 ∧ Q.2.2.1 q ≠ 8 ∧ ∀ k : Nat, k < Q.2.2.2.1 → (k : Int) ≠ t → p k ≠ q) ∨
    (onR Q (q - 128) ∧ Q.2.2.1 (q - 128) = 7 ∧ ∀ k : Nat, k < Q.2.2.2.1 → (k : Int) ≠ t → p k ≠ q)
def VV (Q : Cf) (p : Int → Int) : Prop := ∀ k : Nat, k < Q.2.2.2.1 → okq Q p k (p k)
section VALID
variable {p : Int → Int} {Q : Cf} {t : Int}
theorem occ_none {c but : Int} : ∀ n : Nat, (∀ k : Nat, k < n → (k : Int) ≠ but → p k ≠ c) → occ p c but n = -1
  | 0, _ => rfl
  | n + 1, h => by
    have ih := occ_none n (fun k hk => h k (by omega))
    unfold occ
    by_cases h1 : (n : Int) = but
    · rw [if_pos h1, ih]
    · rw [if_neg h1, if_neg (h n (by omega) h1), ih]
theorem occ_neg {c but : Int} : ∀ n : Nat, occ p c but n < 0 → ∀ k : Nat, k < n → (k : Int) ≠ but → p k ≠ c
  | 0, _, _, hk, _ => by omega
  | n + 1, h, k, hk, hb => by
    unfold occ at h
    by_cases h1 : (n : Int) = but
    · rw [if_pos h1] at h
      exact occ_neg n h k (by omega) hb
    · rw [if_neg h1] at h
      by_cases h2 : p n = c
      · rw [if_pos h2] at h; omega
      · rw [if_neg h2] at h
        by_cases h3 : k = n
        · subst h3; exact h2
        · exact occ_neg n h k (by omega) hb
theorem occ_at {c but : Int} : ∀ n : Nat, 0 ≤ occ p c but n → p (occ p c but n) = c ∧ occ p c but n ≠ but
  | 0, h => by simp [occ] at h
  | n + 1, h => by
    unfold occ at h ⊢
    by_cases h1 : (n : Int) = but
    · rw [if_pos h1] at h ⊢
      exact occ_at n h
    · rw [if_neg h1] at h ⊢
      by_cases h2 : p n = c
      · rw [if_pos h2]; exact ⟨h2, h1⟩
      · rw [if_neg h2] at h ⊢
        exact occ_at n h
theorem occ2_none {c : Int} : ∀ n : Nat, (∀ k : Nat, k < n → co (p k) ≠ c) → occ2 p c n = -1
  | 0, _ => rfl
  | n + 1, h => by
    unfold occ2
    rw [if_neg (h n (by omega))]
    exact occ2_none n (fun k hk => h k (by omega))
theorem occ2_neg {c : Int} : ∀ n : Nat, occ2 p c n < 0 → ∀ k : Nat, k < n → co (p k) ≠ c
  | 0, _, _, hk => by omega
  | n + 1, h, k, hk => by
    unfold occ2 at h
    by_cases h2 : co (p n) = c
    · rw [if_pos h2] at h; omega
    · rw [if_neg h2] at h
      by_cases h3 : k = n
      · subst h3; exact h2
      · exact occ2_neg n h k (by omega)
theorem occ2_rg (c : Int) : ∀ k : Nat, -1 ≤ occ2 p c k ∧ occ2 p c k < k
  | 0 => ⟨by simp [occ2], by simp [occ2]⟩
  | k + 1 => by
    have := occ2_rg c k
    unfold occ2
    split <;> omega
theorem occ2_at {c : Int} : ∀ n : Nat, 0 ≤ occ2 p c n → co (p (occ2 p c n)) = c
  | 0, h => by simp [occ2] at h
  | n + 1, h => by
    unfold occ2 at h ⊢
    by_cases h2 : co (p n) = c
    · rw [if_pos h2]; exact h2
    · rw [if_neg h2] at h ⊢
      exact occ2_at n h
theorem occ2_eq {q : Int → Int} {c : Int} : ∀ n : Nat, (∀ k : Nat, k < n → (co (p k) = c ↔ co (q k) = c)) → occ2 p c n = occ2 q c n
  | 0, _ => rfl
  | n + 1, h => by
    have ih := occ2_eq n (fun k hk => h k (by omega))
    unfold occ2
    rw [ih]
    by_cases h1 : co (p n) = c
    · rw [if_pos h1, if_pos ((h n (by omega)).mp h1)]
    · rw [if_neg h1, if_neg (fun q => h1 ((h n (by omega)).mpr q))]
theorem occ2_some {c : Int} {m : Nat} (hm : co (p m) = c) : ∀ n : Nat, m < n → (∀ k : Nat, k < n → k ≠ m → co (p k) ≠ c) → occ2 p c n = m
  | 0, h, _ => by omega
  | n + 1, h, hu => by
    unfold occ2
    by_cases h1 : n = m
    · subst h1; rw [if_pos hm]
    · rw [if_neg (hu n (by omega) h1)]
      exact occ2_some hm n (by omega) (fun k hk => hu k (by omega))
theorem okq_rg {q : Int} (h : okq Q p t q) : q = 64 ∨ q = 65 ∨ (0 ≤ q ∧ q < 64) ∨ (128 ≤ q ∧ q < 192) := by
  rcases h with h | h | h | h
  · exact Or.inl h
  · exact Or.inr (Or.inl h)
  · exact Or.inr (Or.inr (Or.inl ⟨h.1.1, h.1.2.1⟩))
  · have := h.1.1; have := h.1.2.1
    exact Or.inr (Or.inr (Or.inr ⟨by omega, by omega⟩))
/-- two sound places that lie on one cell are the same place -/
theorem okq_co {t2 q r : Int} (h1 : okq Q p t q) (h2 : okq Q p t2 r) (hc : co q = co r) (hn : co q ≠ -1) : q = r := by
  unfold co at hc hn
  rcases h1 with h | h | h | h
  · subst h; simp at hn
  · subst h; simp at hn
  · have a1 := h.1.1; have a2 := h.1.2.1
    rcases h2 with g | g | g | g
    · subst g; rw [if_pos (by omega), if_neg (by omega)] at hc; simp at hc; omega
    · subst g; rw [if_pos (by omega), if_neg (by omega)] at hc; simp at hc; omega
    · have b1 := g.1.1; have b2 := g.1.2.1
      rw [if_pos (by omega), if_neg (by omega), if_pos (by omega), if_neg (by omega)] at hc
      exact hc
    · have b1 := g.1.1; have b2 := g.1.2.1
      rw [if_pos (by omega), if_neg (by omega), if_neg (by omega)] at hc
      rw [hc] at h
      exact absurd g.2.1 h.2.1
  · have a1 := h.1.1; have a2 := h.1.2.1
    rcases h2 with g | g | g | g
    · subst g; rw [if_neg (by omega)] at hc; simp at hc; omega
    · subst g; rw [if_neg (by omega)] at hc; simp at hc; omega
    · have b1 := g.1.1; have b2 := g.1.2.1
      rw [if_neg (by omega), if_pos (by omega), if_neg (by omega)] at hc
      rw [← hc] at g
      exact absurd h.2.1 g.2.1
    · have b1 := g.1.1; have b2 := g.1.2.1
      rw [if_neg (by omega), if_neg (by omega)] at hc
      omega
theorem okq_mono {q : Int} {p2 : Int → Int} (hp : ∀ k : Nat, k < Q.2.2.2.1 → (k : Int) ≠ t → p2 k = p k) (h : okq Q p t q) : okq Q p2 t q := by
  rcases h with h | h | h | h
  · exact Or.inl h
  · exact Or.inr (Or.inl h)
  · exact Or.inr (Or.inr (Or.inl ⟨h.1, h.2.1, h.2.2.1, fun k hk ht => by rw [hp k hk ht]; exact h.2.2.2 k hk ht⟩))
  · exact Or.inr (Or.inr (Or.inr ⟨h.1, h.2.1, fun k hk ht => by rw [hp k hk ht]; exact h.2.2 k hk ht⟩))
theorem VV_zup {q : Int} (hV : VV Q p) (hq : okq Q p t q) : VV Q (zup p t q) := by
  intro k hk
  by_cases h : (k : Int) = t
  · subst h
    rw [zup_same]
    exact okq_mono (fun j hj ht => zup_ne ht) hq
  · rw [zup_ne h]
    have hk2 := hV k hk
    have key : ∀ j : Nat, j < Q.2.2.2.1 → (j : Int) ≠ (k : Int) → p k ≠ 64 → p k ≠ 65 → zup p t q j ≠ p k := by
      intro j hj hjk n1 n2 he
      by_cases hjt : (j : Int) = t
      · rw [hjt, zup_same] at he
        rcases hq with g | g | g | g
        · exact n1 (he ▸ g)
        · exact n2 (he ▸ g)
        · exact g.2.2.2 k hk h he.symm
        · exact g.2.2 k hk h he.symm
      · rw [zup_ne hjt] at he
        rcases hk2 with g | g | g | g
        · exact n1 g
        · exact n2 g
        · exact g.2.2.2 j hj hjk he
        · exact g.2.2 j hj hjk he
    rcases hk2 with g | g | g | g
    · exact Or.inl g
    · exact Or.inr (Or.inl g)
    · exact Or.inr (Or.inr (Or.inl ⟨g.1, g.2.1, g.2.2.1, fun j hj hjk => key j hj hjk (by have := g.1.2.1; omega) (by have := g.1.2.1; omega)⟩))
    · exact Or.inr (Or.inr (Or.inr ⟨g.1, g.2.1, fun j hj hjk => key j hj hjk (by have := g.1.1; omega) (by have := g.1.1; omega)⟩))
/-- coming to a cell ends at a sound place -/
theorem to1_ok (hW : Q.1 ≤ 8) (hD : Q.2.1 ≤ 8) {x y : Int} (h : 0 ≤ to1 Q p t x y) : okq Q p t (to1 Q p t x y) := by
  unfold to1 cTo at h ⊢
  by_cases h1 : x < 0
  · rw [if_pos h1]; exact Or.inl rfl
  rw [if_neg h1] at h ⊢
  by_cases h2 : Q.1 ≤ x
  · rw [if_pos h2]; exact Or.inl rfl
  rw [if_neg h2] at h ⊢
  by_cases h3 : y < Q.2.1
  rotate_left
  · rw [if_neg h3]; exact Or.inl rfl
  rw [if_pos h3] at h ⊢
  by_cases h4 : 0 ≤ y
  rotate_left
  · rw [if_neg h4]; exact Or.inr (Or.inl rfl)
  rw [if_pos h4] at h ⊢
  have hon : onR Q (8 * y + x) := ⟨by omega, by omega, by omega, by omega⟩
  by_cases h5 : Q.2.2.1 (8 * y + x) = 8
  · rw [if_pos h5] at h; omega
  rw [if_neg h5] at h ⊢
  by_cases h6 : exO Q p t (8 * y + x) < 0
  rotate_left
  · rw [if_neg h6] at h; omega
  rw [if_pos h6] at h ⊢
  by_cases h7 : Q.2.2.1 (8 * y + x) = 7
  · rw [if_pos h7]
    by_cases h8 : exO Q p t (128 + (8 * y + x)) < 0
    · rw [if_pos h8]
      refine Or.inr (Or.inr (Or.inr ⟨?_, ?_, occ_neg _ h8⟩))
      · rw [show 128 + (8 * y + x) - 128 = 8 * y + x by omega]; exact hon
      · rw [show 128 + (8 * y + x) - 128 = 8 * y + x by omega]; exact h7
    · rw [if_neg h8]; exact Or.inl rfl
  · rw [if_neg h7]
    exact Or.inr (Or.inr (Or.inl ⟨hon, h7, h5, occ_neg _ h6⟩))
theorem okq_on {q : Int} (h : okq Q p t q) (h0 : 0 ≤ q) (h1 : q < 64) : onR Q q ∧ Q.2.2.1 q ≠ 7 ∧ Q.2.2.1 q ≠ 8 := by
  rcases h with h | h | h | h
  · omega
  · omega
  · exact ⟨h.1, h.2.1, h.2.2.1⟩
  · have := h.1.1; omega
theorem nxt_ok (hW : Q.1 ≤ 8) (hD : Q.2.1 ≤ 8) {c : Int} (h : 0 ≤ nxt Q.1 Q.2.1 Q.2.2.1 (exO Q p t) c) : okq Q p t (nxt Q.1 Q.2.1 Q.2.2.1 (exO Q p t) c) := by
  unfold nxt at h ⊢
  split
  · rename_i q
    rw [if_pos q] at h
    omega
  · rename_i q
    rw [if_neg q] at h
    exact to1_ok (t := t) (p := p) hW hD h
theorem roll_ok (hW : Q.1 ≤ 8) (hD : Q.2.1 ≤ 8) : ∀ (k : Nat) (mt : Int → Bool) (c : Int), okq Q p t c → okq Q p t (roll Q.1 Q.2.1 Q.2.2.1 (exO Q p t) k mt c) := by
  intro k
  induction k with
  | zero => intro mt c h; exact h
  | succ k ih =>
    intro mt c h
    unfold roll
    split
    · exact h
    · rename_i h1
      have h2 := nxt_ok (p := p) (t := t) hW hD (c := c) (by omega)
      split
      · exact h2
      · split
        · exact h
        · exact ih _ _ h2
theorem rollT_ok (hW : Q.1 ≤ 8) (hD : Q.2.1 ≤ 8) {c : Int} (h : okq Q p t c) : okq Q p t (rollT Q p t c) := roll_ok hW hD _ _ _ h
theorem VV_rollsOn (hW : Q.1 ≤ 8) (hD : Q.2.1 ≤ 8) {m : Nat} (hm : m < Q.2.2.2.1) (hV : VV Q p) : VV Q (rollsOn Q p m) := by
  unfold rollsOn
  split
  · exact hV
  · exact VV_zup hV (rollT_ok hW hD (hV m hm))
theorem VV_knock (hW : Q.1 ≤ 8) (hD : Q.2.1 ≤ 8) {m : Nat} (hm : m < Q.2.2.2.1) (hV : VV Q p) (x y : Int) (st : Bool) : VV Q (knock Q p m x y st) := by
  unfold knock
  split
  · rename_i h1
    have a1 := to1_ok (p := p) (t := m) hW hD h1
    refine VV_rollsOn hW hD hm (VV_zup hV ?_)
    split
    · rename_i h2
      have a2 := to1_ok (p := zup p m (to1 Q p m x (y + 1))) (t := m) hW hD h2.2.2
      exact okq_mono (fun j hj ht => (zup_ne ht).symm) a2
    · exact a1
  · exact hV
theorem rollsOn_ne {k : Int} (h : k ≠ t) : rollsOn Q p t k = p k := by
  unfold rollsOn
  split
  · rfl
  · exact zup_ne h
theorem knock_ne {k x y : Int} {st : Bool} (h : k ≠ t) : knock Q p t x y st k = p k := by
  unfold knock
  split
  · rw [rollsOn_ne h, zup_ne h]
  · rfl
theorem okq_64 : okq Q p t 64 := Or.inl rfl
theorem VV_thrown (hW : Q.1 ≤ 8) (hD : Q.2.1 ≤ 8) {m : Nat} (hm : m < Q.2.2.2.1) (hV : VV Q p) (x y : Int) : VV Q (thrown Q p m x y) := by
  have hp := VV_zup hV (okq_64 (Q := Q) (p := p) (t := m))
  unfold thrown
  split
  · refine VV_zup hV ?_
    split
    · exact Or.inr (Or.inl rfl)
    · exact Or.inl rfl
  · rename_i hin
    split
    · rename_i hh
      have ro := occ_rg (zup p m 64) (8 * y + x) m Q.2.2.2.1
      have ra := occ_at _ hh
      have hV0 := hp
      generalize hg : occ (zup p m 64) (8 * y + x) m Q.2.2.2.1 = h at hh ro ra
      obtain ⟨j, rfl⟩ := Int.eq_ofNat_of_zero_le hh
      have hk := VV_knock hW hD (m := j) (by omega) hp x y (decide (Q.2.2.2.2 m = 3))
      refine VV_rollsOn hW hD hm (VV_zup hk ?_)
      split
      · exact okq_64
      · rename_i hne
        have hon := okq_on (hp j (by omega)) (by rw [ra.1]; omega) (by rw [ra.1]; omega)
        rw [ra.1] at hon
        refine Or.inr (Or.inr (Or.inl ⟨hon.1, hon.2.1, hon.2.2, fun k hk2 hkm he => ?_⟩))
        by_cases hkj : k = j
        · subst hkj; exact hne he
        · have e1 : knock Q (zup p m 64) j x y (decide (Q.2.2.2.2 m = 3)) k = zup p m 64 k := knock_ne (by omega)
          rw [e1] at he
          rcases hp j (by omega) with g | g | g | g
          · rw [ra.1] at g; omega
          · rw [ra.1] at g; omega
          · exact g.2.2.2 k hk2 (by omega) (he.trans ra.1.symm)
          · exact g.2.2 k hk2 (by omega) (he.trans ra.1.symm)
    · refine VV_rollsOn hW hD hm (VV_zup hp ?_)
      split
      · exact okq_64
      · rename_i h6
        exact to1_ok hW hD (by omega)
end VALID
