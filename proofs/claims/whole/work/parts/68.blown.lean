/-! Promise 20: blown, the class. -/
section BLOWN
variable {N : Nat} {s u t : gI} {k a : Int} {P : Int → Int}
theorem inH_rg {p : Int → Int} : ∀ n : Nat, 0 ≤ inH p n ∧ inH p n ≤ n
  | 0 => ⟨Int.le_refl _, Int.le_refl _⟩
  | n + 1 => by
    have ih := inH_rg (p := p) n
    have e : inH p (n + 1) = inH p n + (if p n = 64 then 1 else 0) := rfl
    rw [e]
    split <;> omega
/-- how many more are in hand after a gale -/
def gD (s : gI) (w : Int) : Int := inH (gust (cQ s) w (cQ s).2.2.2.1 0 (s.1 7)) (cQ s).2.2.2.1 - inH (s.1 7) (cQ s).2.2.2.1
def bSum (s : gI) : Nat → Int → Int
  | 0, _ => 0
  | r + 1, w => gD s w + bSum s r (w + 1)
def bBest (s : gI) : Nat → Int → Int → Int → Int
  | 0, _, b, _ => b
  | r + 1, w, b, g => if gD s w ≤ g then bBest s r (w + 1) b g else bBest s r (w + 1) w (gD s w)
theorem gD_rg (hw : cOK s) {w : Int} : -8 ≤ gD s w ∧ gD s w ≤ 8 := by
  have hn := cW_n hw
  have h1 := inH_rg (p := gust (cQ s) w (cQ s).2.2.2.1 0 (s.1 7)) (cQ s).2.2.2.1
  have h2 := inH_rg (p := s.1 7) (cQ s).2.2.2.1
  unfold gD
  omega
theorem c_blown_lp (hN : 5000 ≤ N) (hI : INV k s) : ∀ (r fuel : Nat) (z b g w : Int) (t : gI), r < fuel → 0 ≤ w → w + r = 4 → -8 * w ≤ z → z ≤ 8 * w → (t = s ∨ t = held s) →
    ∃ v, (v = s ∨ v = held s) ∧ f154_at32 N fuel a (inH (s.1 7) (cQ s).2.2.2.1) z b g w t = some (if a = 0 then z + bSum s r w else bBest s r w b g, v) := by
  have hw := hI.1.1.1
  have sc := hI.1.1.2.1
  have hV := hI.1.1.2.2.1
  have hn := cW_n hw
  have en : (cQ s).2.2.2.1 = (s.1 15 3).toNat := rfl
  intro r
  induction r with
  | zero =>
    intro fuel z b g w t hf w0 e z0 z1 ht
    obtain ⟨fuel, rfl⟩ : ∃ g, fuel = g + 1 := ⟨fuel - 1, by omega⟩
    refine ⟨t, ht, ?_⟩
    unfold f154_at32 bSum bBest
    rw [if_pos (by omega), Int.add_zero]
    split <;> rfl
  | succ r ih =>
    intro fuel z b g w t hf w0 e z0 z1 ht
    obtain ⟨fuel, rfl⟩ : ∃ g, fuel = g + 1 := ⟨fuel - 1, by omega⟩
    have hh : f47 N t = some (held s) := by
      rcases ht with q | q <;> subst q
      · exact c_hold
      · rw [c_hold, held_held]
    have eQ : cQ (held s) = cQ s := by
      unfold cQ
      rw [held_ne (by decide), held_ne (by decide), held_ne (by decide), held_ne (by decide)]
    have hwh : cOK (held s) := by
      unfold cOK
      rw [held_ne (by decide), held_ne (by decide), held_ne (by decide)]
      exact hw
    have sch : scOK (held s) := by
      unfold scOK
      rw [held_ne (by decide), held_ne (by decide), held_ne (by decide)]
      exact sc
    have ecs : cst (held s) (s.1 7) = held s := by
      have := cst_self sch
      rwa [held_ne (by decide)] at this
    have l1 := c_gust (N := N) (s := held s) (w := w) (p := s.1 7) hN hwh w0 (by omega) (by rw [eQ]; exact hV)
    rw [ecs, eQ] at l1
    have l2 := c_manyAt (N := N) (s := cst (held s) (gust (cQ s) w (cQ s).2.2.2.1 0 (s.1 7))) hN (cst_OK hwh) (w := 64)
    rw [cst_7, cst_ne (by decide) (by decide), held_ne (by decide), inH_tol] at l2
    have l3 := c_release (N := N) (P := gust (cQ s) w (cQ s).2.2.2.1 0 (s.1 7)) hN hI (fun j hj => gust_ne _ _ _ (by omega))
    have rg := gD_rg hw (w := w)
    have eD : inH (gust (cQ s) w (cQ s).2.2.2.1 0 (s.1 7)) (s.1 15 3).toNat - inH (s.1 7) (cQ s).2.2.2.1 = gD s w := rfl
    unfold f154_at32 bSum bBest
    rw [if_neg (by omega), hh, i_o1_some, l1, i_o2_some, l2, i_o2_some, eD, iov_ok (by omega) (by omega)]
    dsimp only
    rw [l3, i_o1_some, iov_ok (by omega) (by omega), iov_ok (by omega) (by omega), ← Int.add_assoc]
    by_cases h : gD s w ≤ g
    · rw [if_pos h, if_pos h]
      exact ih fuel (z + gD s w) b g (w + 1) (held s) (by omega) (by omega) (by omega) (by omega) (by omega) (Or.inr rfl)
    · rw [if_neg h, if_neg h, iov_ok (by omega) (by omega)]
      exact ih fuel (z + gD s w) w (gD s w) (w + 1) (held s) (by omega) (by omega) (by omega) (by omega) (by omega) (Or.inr rfl)
end BLOWN
